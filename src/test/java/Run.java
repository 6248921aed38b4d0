import java.lang.reflect.InvocationTargetException;
import java.lang.reflect.Method;
import java.lang.reflect.Modifier;
import java.util.ArrayList;
import java.util.Arrays;
import java.util.HashMap;
import java.util.List;
import java.util.Map;
import java.util.Set;
import java.util.TreeSet;

/**
 * A run of calls on a new object. Calls are told by name, so that they can be shown, and made again on another object:
 * that is how a refused call is seen to do nothing. No object gets more calls than the document allows.
 */
final class Run {
    static final int LEAST = Integer.MIN_VALUE;
    static final int MOST = Integer.MAX_VALUE;
    static final int NONE = -1;
    static final int NO_SUM = -1000;
    static final int NO_AMOUNT = -1000000000;
    static final int FALSE = 0;
    static final int TRUE = 1;
    static final int MOST_CALLS = 512;

    private static final Map<String, Method> FACE = face();
    private static final Set<String> CHANGING = Set.of("tell", "take", "residues", "twice", "doubled", "product", "four",
            "bordered", "completed", "copy", "drop", "sign", "exchange", "turn", "switched", "norm", "signal");

    private static final Set<String> TAKING_ROWS = Set.of("tell", "take", "completed");
    private static final Set<String> WITHOUT_PLACE = Set.of("tell", "take", "residues", "twice", "four", "bordered", "completed",
            "signal", "field", "fours", "count");

    private record Call(String name, Object... arguments) {
        String text() {
            String list = Arrays.toString(arguments);
            return name + "(" + list.substring(1, list.length() - 1) + ")";
        }
    }

    /** Calls that are refused, that only tell something, or that undo one another, on a table of ORDER 2 or more at 0. */
    private static final Call[][] IDLE = {
        {new Call("tell", -1)}, {new Call("sign", 0, true, 0), new Call("sign", 0, true, 0)}, {new Call("best", 0, 1)},
        {new Call("exchange", 0, false, 0, 1), new Call("exchange", 0, false, 0, 1)}, {new Call("symmetries", 0)},
        {new Call("turn", 0), new Call("turn", 0)}, {new Call("fours", 7, 3, 2)}, {new Call("completed", 3)},
        {new Call("copy", 0), new Call("drop", 3)}, {new Call("drop", 5)}, {new Call("field", 27, 25, 24, 1)}};

    /** An object that counts its calls. */
    private static final class Counted {
        private final SignTables tables = new SignTables();
        private int calls;

        long answer(Call call) {
            calls++;
            if (calls > MOST_CALLS) {
                throw new IllegalStateException("the document tells nothing of call " + calls);
            }
            Method method = FACE.get(call.name);
            try {
                Object got = method.invoke(tables, call.arguments);
                return got instanceof Boolean is ? (is ? TRUE : FALSE) : ((Number) got).longValue();
            } catch (InvocationTargetException thrown) {
                Sentences.wrong(call.text() + " threw " + thrown.getCause());
                return Long.MIN_VALUE;
            } catch (IllegalAccessException hidden) {
                throw new IllegalStateException(hidden);
            }
        }

        long answer(String name, Object... arguments) {
            return answer(new Call(name, arguments));
        }
    }

    /**
     * What there is besides when a call is refused, so that it would be seen if it were lost: numbers, TOLD rows, TRAILS,
     * a table; as far as that makes no difference to whether the call is refused.
     */
    private record State(boolean rows, boolean turned, boolean table) {
        static State besides(Call call) {
            boolean rows = !TAKING_ROWS.contains(call.name);
            return new State(rows, !call.name.equals("switched"), WITHOUT_PLACE.contains(call.name));
        }

        void addTo(Counted object) {
            object.answer("signal", 0, 7);
            object.answer("signal", 13, -9);
            object.answer("signal", 27, 5);
            if (rows) {
                object.answer("tell", 1);
                object.answer("tell", full(28));
            }
            if (table) {
                object.answer("residues", 7);
            }
            for (int t = 0; t < 6; t++) {
                addTrail(object, t, (int) object.answer("order", t));
            }
        }

        private void addTrail(Counted object, int t, int n) {
            if (n > 0) {
                object.answer("sign", t, true, 0);
                object.answer("sign", t, false, n - 1);
            }
            if (n > 0 && turned) {
                object.answer("turn", t);
            }
        }
    }

    private Counted object = new Counted();
    private final List<Call> kept = new ArrayList<>();
    private final Map<State, List<String>> laterWithout = new HashMap<>();

    private static Map<String, Method> face() {
        Map<String, Method> face = new HashMap<>();
        for (Method method : SignTables.class.getDeclaredMethods()) {
            if (Modifier.isPublic(method.getModifiers())) {
                face.put(method.getName(), method);
            }
        }
        return face;
    }

    /** Numbers on both sides of low .. high: next to it, far away, and such as a shift or a narrow type would take for it. */
    static int[] outside(int low, int high) {
        long[] near = {LEAST, LEAST + 1L, low - 1000L, low - 64L, low - 32L, low - 2L, low - 1L, high + 1L, high + 2L,
            low + 32L, low + 64L, low + 256L, low + 65536L, high + 32L, high + 1000L, MOST - 1L, MOST};
        Set<Integer> found = new TreeSet<>();
        for (long number : near) {
            if (number >= LEAST && number <= MOST && (number < low || number > high)) {
                found.add((int) number);
            }
        }
        return found.stream().mapToInt(Integer::intValue).toArray();
    }

    /** All numbers near 0, and far ones, but for these. */
    static int[] allBut(int... numbers) {
        Set<Integer> found = new TreeSet<>();
        for (int number = -40; number <= 70; number++) {
            found.add(number);
        }
        for (int number : outside(0, 1)) {
            found.add(number);
        }
        for (int number : numbers) {
            found.add(number + 256);
            found.add(number + 65536);
        }
        for (int number : numbers) {
            found.remove(number);
        }
        return found.stream().mapToInt(Integer::intValue).toArray();
    }

    static int full(int n) {
        return (1 << n) - 1;
    }

    /** Makes a call of whatever kind; those that may change something are kept, to be made again. */
    long call(String name, Object... arguments) {
        Call call = new Call(name, arguments);
        long got = make(call);
        if (CHANGING.contains(name)) {
            kept.add(call);
            laterWithout.clear();
        }
        return got;
    }

    int callsOfObject() {
        return object.calls;
    }

    /** Calls that leave everything as it is in the end, until the object has had so many. */
    Run idleUntil(int calls) {
        for (int k = 0; object.calls < calls; k++) {
            Call[] idle = IDLE[k % IDLE.length];
            if (object.calls + idle.length <= calls) {
                for (Call call : idle) {
                    object.answer(call);
                }
            }
        }
        return this;
    }

    private long make(Call call) {
        if (object.calls == MOST_CALLS) {
            object = again();
        }
        return object.answer(call);
    }

    private Counted again() {
        Counted made = new Counted();
        for (Call call : kept) {
            made.answer(call);
        }
        return made;
    }

    /** A call, and the answer that is due. */
    Run due(long want, String name, Object... arguments) {
        long got = call(name, arguments);
        Sentences.due(new Call(name, arguments).text(), got, want);
        return this;
    }

    /** A call that is refused by this answer, and nothing happens: all later calls answer as without it. */
    Run refused(long want, String name, Object... arguments) {
        Call call = new Call(name, arguments);
        Sentences.due(call.text(), make(call), want);
        nothingHappens(call);
        return this;
    }

    /** A call that only tells something, with its answer: all later calls answer as without it. */
    Run told(long want, String name, Object... arguments) {
        return refused(want, name, arguments);
    }

    /** The call with each of these numbers at one position (0 the first) is refused. */
    Run refusedAt(int position, int[] numbers, long want, String name, Object... arguments) {
        for (int number : numbers) {
            Object[] changed = arguments.clone();
            changed[position] = number;
            refused(want, name, changed);
        }
        return this;
    }

    /** The call is refused for numbers that are no PLACE, and for each PLACE that is empty. */
    Run refusedPlaces(int position, long want, String name, Object... arguments) {
        refusedAt(position, outside(0, 5), want, name, arguments);
        return refusedEmptyPlaces(position, want, name, arguments);
    }

    Run refusedEmptyPlaces(int position, long want, String name, Object... arguments) {
        long filled = make(new Call("count", 1));
        for (int t = 0; t < 6; t++) {
            if ((filled >> t & 1) == 0) {
                refusedAt(position, new int[] {t}, want, name, arguments);
            }
        }
        return this;
    }

    private void nothingHappens(Call call) {
        State state = State.besides(call);
        List<String> without = laterWithout.computeIfAbsent(state, key -> later(key, null));
        List<String> after = later(state, call);
        for (int k = 0; k < Math.max(after.size(), without.size()); k++) {
            String one = k < after.size() ? after.get(k) : "nothing";
            String due = k < without.size() ? without.get(k) : "nothing";
            if (!one.equals(due)) {
                Sentences.wrong("after " + call.text() + ": " + one + ", without it: " + due);
                return;
            }
        }
    }

    /** What later calls tell; each part on an object of its own, as one bears no more calls. */
    private List<String> later(State state, Call between) {
        List<String> lines = new ArrayList<>();
        lookAtShelf(after(state, between), lines);
        for (int t = 0; t < 6; t++) {
            lookAtPlace(after(state, between), t, lines);
        }
        return lines;
    }

    private Counted after(State state, Call between) {
        Counted made = again();
        state.addTo(made);
        if (between != null) {
            made.answer(between);
        }
        return made;
    }

    private static long note(Counted on, List<String> lines, String name, Object... arguments) {
        Call call = new Call(name, arguments);
        long got = on.answer(call);
        lines.add(call.text() + " answers " + got);
        return got;
    }

    private static void lookAtShelf(Counted on, List<String> lines) {
        for (int what = 0; what < 4; what++) {
            note(on, lines, "count", what);
        }
        for (int t = 0; t < 6; t++) {
            note(on, lines, "order", t);
        }
        for (int i = 0; i < 28; i++) {
            note(on, lines, "signal", i, 0);
        }
        if (on.answer("count", 0) == 6) {
            note(on, lines, "drop", 5);
        }
        // TOLD rows can be seen in a table alone, and all of them fit into one of 28.
        for (int k = 0; k < 28 && on.answer("count", 2) < 28; k++) {
            note(on, lines, "tell", 0);
        }
        int place = (int) note(on, lines, "take");
        for (int i = 0; i < 28; i++) {
            note(on, lines, "bits", place, true, i);
        }
    }

    private static void lookAtPlace(Counted on, int t, List<String> lines) {
        int n = (int) on.answer("order", t);
        for (int i = 0; i < n; i++) {
            note(on, lines, "bits", t, true, i);
            for (int what = 0; what < 3; what++) {
                note(on, lines, "trail", t, true, i, what);
                note(on, lines, "trail", t, false, i, what);
            }
        }
        if (n > 0) {
            note(on, lines, "sum", t);
            note(on, lines, "perpendicular", t, 2);
            note(on, lines, "best", t, 0);
            note(on, lines, "best", t, 1);
            note(on, lines, "form", t, n - 1);
            note(on, lines, "determinant", t);
            note(on, lines, "image", t, t, false, 0);
        }
    }

    // ---- what many runs begin with

    /** A table of these rows; its PLACE. */
    int lay(int... rows) {
        for (int row : rows) {
            call("tell", row);
        }
        return (int) call("take");
    }

    /** A table of an ORDER, each row of it the same. */
    int layAlike(int n, int row) {
        int[] rows = new int[n];
        Arrays.fill(rows, row);
        return lay(rows);
    }

    /** A table of an ORDER with + alone, by as few calls as can be. */
    int plain(int n) {
        return n == 1 ? lay(0) : (int) call("bordered", n - 1, 0);
    }

    /** A run with a table of ORDER 1 in all places, and nothing TOLD. */
    static Run withFullShelf() {
        Run run = new Run();
        for (int t = 0; t < 6; t++) {
            run.lay(t % 2);
        }
        return run;
    }

    Run rowsAre(int t, int... rows) {
        due(rows.length, "order", t);
        for (int i = 0; i < rows.length; i++) {
            due(rows[i], "bits", t, true, i);
        }
        return this;
    }

    /** The TRAIL is that of a table just made. */
    Run trailIsNew(int t) {
        int n = (int) call("order", t);
        for (int i = 0; i < n; i++) {
            due(i, "trail", t, true, i, 0).due(0, "trail", t, true, i, 1).due(1, "trail", t, true, i, 2);
            due(i, "trail", t, false, i, 0).due(0, "trail", t, false, i, 1).due(0, "trail", t, false, i, 2);
        }
        return this;
    }
}
