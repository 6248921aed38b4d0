import java.lang.reflect.InvocationTargetException;
import java.lang.reflect.Method;
import java.lang.reflect.Modifier;
import java.util.Arrays;
import java.util.Comparator;
import java.util.Random;

/** Any arguments in any state, and after the 512th call too: no call throws. Answers are what ModelTests looks at. */
public final class WildTests {
    private static final int RUNS = 3000;
    private static final int CALLS = 512;
    private static final int CALLS_OF_LONG_RUNS = 8000;
    private static final int[] EDGES = {Integer.MIN_VALUE, Integer.MIN_VALUE + 1, -1000, -29, -28, -2, -1, 13, 14, 15, 16, 23,
        27, 28, 29, 31, 32, 33, 63, 64, 112, 999, 1000, (1 << 28) - 1, 1 << 28, 1 << 30, Integer.MAX_VALUE};

    public static void main(String[] args) throws IllegalAccessException {
        Method[] calls = Arrays.stream(SignTables.class.getDeclaredMethods())
                .filter(call -> Modifier.isPublic(call.getModifiers()))
                .sorted(Comparator.comparing(Method::getName))
                .toArray(Method[]::new);
        Random random = new Random(7);
        int failed = 0;
        for (int run = 0; run < RUNS && failed == 0; run++) {
            SignTables x = new SignTables();
            int most = run % 100 == 0 ? CALLS_OF_LONG_RUNS : CALLS;
            for (int k = 0; k < most && failed == 0; k++) {
                Method call = calls[random.nextInt(calls.length)];
                Object[] drawn = draw(call, random);
                try {
                    call.invoke(x, drawn);
                } catch (InvocationTargetException thrown) {
                    failed++;
                    System.out.println(call.getName() + Arrays.toString(drawn) + " threw " + thrown.getCause());
                }
            }
        }
        System.out.println("WildTests: " + RUNS + " runs, " + failed + " calls threw");
        if (failed > 0) {
            System.exit(1);
        }
    }

    private static Object[] draw(Method call, Random random) {
        Object[] drawn = new Object[call.getParameterCount()];
        for (int k = 0; k < drawn.length; k++) {
            if (call.getParameterTypes()[k] == boolean.class) {
                drawn[k] = random.nextBoolean();
            } else {
                drawn[k] = drawNumber(random);
            }
        }
        return drawn;
    }

    private static int drawNumber(Random random) {
        switch (random.nextInt(20)) {
            case 0:
                return EDGES[random.nextInt(EDGES.length)];
            case 1:
                return random.nextInt();
            case 2: case 3:
                return random.nextInt(30);
            case 4: case 5:
                return random.nextInt(13);
            default:
                return random.nextInt(6);
        }
    }
}
