import java.util.ArrayList;
import java.util.List;
import java.util.Random;

/** Long runs of drawn calls, right ones and wrong ones, on SignTables and on NaiveTables: each answer must be the same. */
public final class ModelTests {
    private static final int RUNS = 400;
    private static final int CALLS = 300;
    private static final int[] ODD_NUMBERS = {-1, -2, 6, 28, 29, 32, 63, 1000, 1 << 28, Integer.MIN_VALUE, Integer.MAX_VALUE};
    private static final int[] FIELD_SIZES = {3, 5, 7, 9, 11, 13, 17, 19, 23, 25, 27};

    private final Random random;
    private final SignTables tables = new SignTables();
    private final NaiveTables naive = new NaiveTables();
    private final List<String> trace = new ArrayList<>();
    private boolean same = true;

    private ModelTests(long seed) {
        random = new Random(seed);
    }

    public static void main(String[] args) {
        int failed = 0;
        for (int run = 0; run < RUNS; run++) {
            ModelTests test = new ModelTests(run);
            for (int call = 0; call < CALLS && test.same; call++) {
                test.oneCall();
            }
            if (!test.same) {
                failed++;
                System.out.println("run " + run + ":");
                for (String line : test.trace) {
                    System.out.println("  " + line);
                }
            }
        }
        failed += allOfThree();
        System.out.println("ModelTests: " + RUNS + " runs, " + failed + " with a wrong answer");
        if (failed > 0) {
            System.exit(1);
        }
    }

    /** Each table of order 3, with what is dear to find of it. */
    private static int allOfThree() {
        int failed = 0;
        for (int signs = 0; signs < 512; signs++) {
            ModelTests test = new ModelTests(signs);
            test.layThree(signs);
            test.layThree(signs * 173 + 5 & 511);
            for (int what = 0; what < 3; what++) {
                test.due("form(0, " + what + ")", test.tables.form(0, what), test.naive.form(0, what));
                test.due("best(0, " + what + ")", test.tables.best(0, what), test.naive.best(0, what));
                for (int t = 0; t < 2; t++) {
                    test.due("image to " + t, test.tables.image(0, t, true, what), test.naive.image(0, t, true, what));
                    test.due("image to " + t, test.tables.image(0, t, false, what), test.naive.image(0, t, false, what));
                }
            }
            test.due("symmetries(0)", test.tables.symmetries(0), test.naive.symmetries(0));
            test.due("determinant(0)", test.tables.determinant(0), test.naive.determinant(0));
            if (!test.same) {
                failed++;
                System.out.println("all of three, " + signs + ": " + test.trace);
            }
        }
        return failed;
    }

    private void layThree(int signs) {
        for (int i = 0; i < 3; i++) {
            int row = signs >> (3 * i) & 7;
            due("tell(" + row + ")", tables.tell(row), naive.tell(row));
        }
        due("take()", tables.take(), naive.take());
    }

    private void due(String call, long got, long want) {
        trace.add(call + " answered " + got + (got == want ? "" : ", due is " + want));
        same &= got == want;
    }

    private void due(String call, boolean got, boolean want) {
        due(call, got ? 1 : 0, want ? 1 : 0);
    }

    private int odd() {
        return ODD_NUMBERS[random.nextInt(ODD_NUMBERS.length)];
    }

    private int below(int n) {
        return random.nextInt(12) == 0 || n <= 0 ? odd() : random.nextInt(n);
    }

    private int place() {
        int filled = naive.count(1);
        int t = random.nextInt(6);
        for (int k = 0; k < 6 && (filled >> t & 1) == 0 && random.nextInt(6) > 0; k++) {
            t = (t + 1) % 6;
        }
        return random.nextInt(40) == 0 ? odd() : t;
    }

    private int index(int t) {
        int n = naive.order(t);
        return random.nextInt(15) == 0 ? (random.nextBoolean() ? n : odd()) : n > 0 ? random.nextInt(n) : 0;
    }

    private int word(int n) {
        if (n <= 0 || random.nextInt(15) == 0) {
            return odd();
        }
        int word = random.nextInt(1 << n);
        return random.nextInt(3) == 0 ? word & random.nextInt(1 << n) : random.nextInt(40) == 0 ? 1 << n : word;
    }

    private int fieldSize() {
        return random.nextInt(6) == 0 ? random.nextInt(32) - 2 : FIELD_SIZES[random.nextInt(FIELD_SIZES.length)];
    }

    private void oneCall() {
        int kind = random.nextInt(100);
        if (kind < 6 && naive.count(0) == 6 || kind == 0) {
            int t = place();
            due("drop(" + t + ")", tables.drop(t), naive.drop(t));
        } else if (kind < 20) {
            make();
        } else if (kind < 45) {
            change();
        } else if (kind < 70) {
            look();
        } else if (kind < 80) {
            witness();
        } else {
            design();
        }
    }

    private void tellSome() {
        int n = random.nextInt(4) == 0 ? 1 + random.nextInt(28) : 1 + random.nextInt(6);
        int like = word(n);
        for (int i = naive.count(2); i < n; i++) {
            int bits = random.nextInt(3) == 0 ? like : word(n);
            due("tell(" + bits + ")", tables.tell(bits), naive.tell(bits));
        }
    }

    private void make() {
        int t = place();
        int u = place();
        int m = 1 + below(7);
        switch (random.nextInt(10)) {
            case 0: case 1:
                tellSome();
                due("take()", tables.take(), naive.take());
                break;
            case 2:
                int q = fieldSize();
                due("residues(" + q + ")", tables.residues(q), naive.residues(q));
                break;
            case 3:
                int p = fieldSize();
                due("twice(" + p + ")", tables.twice(p), naive.twice(p));
                break;
            case 4:
                due("doubled(" + t + ")", tables.doubled(t), naive.doubled(t));
                break;
            case 5:
                due("product(" + t + ", " + u + ")", tables.product(t, u), naive.product(t, u));
                break;
            case 6:
                int a = word(m);
                int b = word(m);
                int c = word(m);
                int d = word(m);
                due("four(" + m + ", " + a + ", " + b + ", " + c + ", " + d + ")",
                        tables.four(m, a, b, c, d), naive.four(m, a, b, c, d));
                break;
            case 7:
                int width = 1 + below(27);
                int row = width < 1 || width > 28 ? 0 : word(width);
                due("bordered(" + width + ", " + row + ")", tables.bordered(width, row), naive.bordered(width, row));
                break;
            case 8:
                complete();
                break;
            default:
                due("copy(" + t + ")", tables.copy(t), naive.copy(t));
                break;
        }
    }

    private void complete() {
        int[] sizes = {1, 2, 4, 8, 12, 3, 16, -4};
        int n = sizes[random.nextInt(random.nextInt(4) == 0 ? 8 : 5)];
        List<Integer> rows = new ArrayList<>();
        int wanted = random.nextInt(n < 1 ? 3 : n + 1);
        for (int tries = 0; tries < 3000 && rows.size() < wanted && naive.count(2) == 0; tries++) {
            int word = random.nextInt(1 << Math.max(1, n));
            boolean fits = true;
            for (int row : rows) {
                fits &= 2 * Integer.bitCount(row ^ word) == n;
            }
            if (fits) {
                rows.add(word);
            }
        }
        for (int row : rows) {
            due("tell(" + row + ")", tables.tell(row), naive.tell(row));
        }
        due("completed(" + n + ")", tables.completed(n), naive.completed(n));
        if (naive.count(2) > 0 && naive.count(0) < 6 && random.nextBoolean()) {
            int t = naive.count(0) - 1;
            due("completed(" + n + ")", tables.completed(n), naive.completed(n));
            due("take()", tables.take(), naive.take());
            due("drop(" + t + ")", tables.drop(t), naive.drop(t));
        }
    }

    private void change() {
        int t = place();
        boolean row = random.nextBoolean();
        int i = index(t);
        int k = index(t);
        switch (random.nextInt(8)) {
            case 0: case 1: case 2:
                due("sign(" + t + ", " + row + ", " + i + ")", tables.sign(t, row, i), naive.sign(t, row, i));
                break;
            case 3: case 4:
                due("exchange(" + t + ", " + row + ", " + i + ", " + k + ")",
                        tables.exchange(t, row, i, k), naive.exchange(t, row, i, k));
                break;
            case 5:
                due("turn(" + t + ")", tables.turn(t), naive.turn(t));
                break;
            case 6:
                due("norm(" + t + ")", tables.norm(t), naive.norm(t));
                break;
            default:
                trySwitch(t);
                break;
        }
        lookAtAll(t);
    }

    private void trySwitch(int t) {
        boolean done = false;
        for (int tries = 0; tries < 30 && !done; tries++) {
            int a = index(t);
            int b = index(t);
            int c = index(t);
            int d = index(t);
            int j = index(t);
            done = naive.switched(t, a, b, c, d, j);
            due("switched(" + t + ", " + a + ", " + b + ", " + c + ", " + d + ", " + j + ")",
                    tables.switched(t, a, b, c, d, j), done);
        }
    }

    private void lookAtAll(int t) {
        for (int i = 0; i < naive.order(t); i++) {
            due("bits(" + t + ", true, " + i + ")", tables.bits(t, true, i), naive.bits(t, true, i));
            for (int what = 0; what < 3; what++) {
                due("trail(" + t + ", true, " + i + ", " + what + ")",
                        tables.trail(t, true, i, what), naive.trail(t, true, i, what));
                due("trail(" + t + ", false, " + i + ", " + what + ")",
                        tables.trail(t, false, i, what), naive.trail(t, false, i, what));
            }
        }
    }

    private void look() {
        int t = place();
        boolean row = random.nextBoolean();
        int i = index(t);
        int k = index(t);
        int what = below(3);
        int n = naive.order(t);
        int v = random.nextBoolean() ? n : below(n + 2);
        switch (random.nextInt(12)) {
            case 0:
                due("order(" + t + ")", tables.order(t), naive.order(t));
                break;
            case 1:
                due("bits(" + t + ", " + row + ", " + i + ")", tables.bits(t, row, i), naive.bits(t, row, i));
                break;
            case 2:
                due("trail(" + t + ", " + row + ", " + i + ", " + what + ")",
                        tables.trail(t, row, i, what), naive.trail(t, row, i, what));
                break;
            case 3:
                due("along(" + t + ", " + row + ", " + i + ", " + k + ")",
                        tables.along(t, row, i, k), naive.along(t, row, i, k));
                break;
            case 4:
                due("perpendicular(" + t + ", " + what + ")", tables.perpendicular(t, what), naive.perpendicular(t, what));
                break;
            case 5:
                due("sum(" + t + ")", tables.sum(t), naive.sum(t));
                break;
            case 6:
                if (n <= 10 || n > 16 || random.nextInt(20) == 0) {
                    due("best(" + t + ", " + what + ")", tables.best(t, what), naive.best(t, what));
                }
                break;
            case 7:
                due("tally(" + t + ", " + row + ", " + v + ")", tables.tally(t, row, v), naive.tally(t, row, v));
                break;
            case 8:
                due("part(" + t + ", " + row + ", " + i + ", " + v + ")",
                        tables.part(t, row, i, v), naive.part(t, row, i, v));
                break;
            case 9: case 10:
                due("form(" + t + ", " + i + ")", tables.form(t, i), naive.form(t, i));
                break;
            default:
                due("determinant(" + t + ")", tables.determinant(t), naive.determinant(t));
                break;
        }
    }

    /** Another PLACE of the same ORDER, if there is one, as others have nothing to tell. */
    private int placeLike(int t) {
        int u = place();
        for (int k = 0; k < 6 && random.nextInt(10) > 0; k++) {
            int next = Math.floorMod(u + k, 6);
            if (next != t && naive.order(next) == naive.order(t)) {
                return next;
            }
        }
        return u;
    }

    private void witness() {
        int t = place();
        int u = placeLike(t);
        boolean row = random.nextBoolean();
        int i = index(t);
        int knots = 4 * naive.order(t) + 1;
        int a = below(knots);
        int b = below(knots);
        switch (random.nextInt(6)) {
            case 0:
                due("like(" + t + ", " + u + ")", tables.like(t, u), naive.like(t, u));
                break;
            case 1: case 2:
                due("image(" + t + ", " + u + ", " + row + ", " + i + ")",
                        tables.image(t, u, row, i), naive.image(t, u, row, i));
                break;
            case 3:
                if (naive.order(t) != 12) {
                    due("symmetries(" + t + ")", tables.symmetries(t), naive.symmetries(t));
                }
                break;
            case 4:
                due("joined(" + t + ", " + a + ", " + b + ")", tables.joined(t, a, b), naive.joined(t, a, b));
                break;
            default:
                due("common(" + t + ", " + a + ", " + b + ")", tables.common(t, a, b), naive.common(t, a, b));
                break;
        }
    }

    private void design() {
        int t = place();
        int r = index(t);
        int c = index(t);
        int i = index(t);
        int n = naive.order(t);
        int set = random.nextBoolean() && n > 0 ? 1 << random.nextInt(n) : word(n);
        int what = below(4);
        int q = fieldSize();
        switch (random.nextInt(10)) {
            case 0:
                due("block(" + t + ", " + r + ", " + c + ", " + i + ")", tables.block(t, r, c, i), naive.block(t, r, c, i));
                break;
            case 1: case 2:
                due("through(" + t + ", " + r + ", " + c + ", " + set + ")",
                        tables.through(t, r, c, set), naive.through(t, r, c, set));
                break;
            case 3:
                due("halves(" + t + ", " + r + ", " + set + ")", tables.halves(t, r, set), naive.halves(t, r, set));
                break;
            case 4:
                int word = word(n);
                due("nearest(" + t + ", " + word + ", " + what + ")",
                        tables.nearest(t, word, what), naive.nearest(t, word, what));
                break;
            case 5: case 6:
                int number = random.nextInt(8) == 0 ? odd() : random.nextInt(1999) - 999;
                int at = below(28);
                due("signal(" + at + ", " + number + ")", tables.signal(at, number), naive.signal(at, number));
                break;
            case 7:
                boolean back = random.nextBoolean();
                due("spectrum(" + t + ", " + i + ", " + back + ")",
                        tables.spectrum(t, i, back), naive.spectrum(t, i, back));
                break;
            case 8:
                int a = below(q);
                int b = below(q);
                due("field(" + q + ", " + a + ", " + b + ", " + what + ")",
                        tables.field(q, a, b, what), naive.field(q, a, b, what));
                break;
            default:
                int m = below(7);
                int which = random.nextInt(8) - 1;
                due("fours(" + m + ", " + which + ", " + what + ")", tables.fours(m, which, what), naive.fours(m, which, what));
                due("count(" + what + ")", tables.count(what), naive.count(what));
                break;
        }
    }
}
