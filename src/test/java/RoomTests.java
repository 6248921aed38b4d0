import com.sun.management.ThreadMXBean;
import java.lang.management.ManagementFactory;

/** Calls make nothing: all that a run needs is made by the constructor, and that is small. Each call ends soon. */
public final class RoomTests {
    private static final int CALLS = 512;
    private static final long BYTES_OF_AN_OBJECT = 40000;
    private static final long BYTES_OF_ALL_CALLS = 4096;
    private static final long NANOS_OF_ALL_CALLS = 20_000_000_000L;

    private static final ThreadMXBean THREADS = (ThreadMXBean) ManagementFactory.getThreadMXBean();

    private static int wrong;

    public static void main(String[] args) {
        // Once to load what the machine itself needs.
        callAll(new SignTables(), 64);
        long before = allocated();
        SignTables x = new SignTables();
        check("bytes of an object", allocated() - before, BYTES_OF_AN_OBJECT);
        before = allocated();
        long start = System.nanoTime();
        callAll(x, CALLS);
        check("nanoseconds of " + CALLS + " times all dear calls", System.nanoTime() - start, NANOS_OF_ALL_CALLS);
        check("bytes of them", allocated() - before, BYTES_OF_ALL_CALLS);
        if (wrong > 0) {
            System.exit(1);
        }
    }

    private static long allocated() {
        return THREADS.getThreadAllocatedBytes(Thread.currentThread().getId());
    }

    private static void check(String what, long found, long most) {
        boolean fits = found <= most;
        wrong += fits ? 0 : 1;
        System.out.println("RoomTests: " + what + ": " + found + (fits ? "" : ", more than " + most));
    }

    private static void callAll(SignTables x, int times) {
        long total = 0;
        for (int k = 0; k < times; k++) {
            total += makeAndDrop(x, k);
            total += x.field(27, 26, 26, 3) + x.fours(7, -1, 0) + x.fours(7, 3, 3) + x.count(3);
        }
        if (total == 42) {
            System.out.println("what was answered counts, so that no call is left out");
        }
    }

    private static long makeAndDrop(SignTables x, int k) {
        int twelve = x.twice(5);
        int big = k % 2 == 0 ? x.residues(27) : x.twice(13);
        int sixteen = x.bordered(15, k * 61 & 32767);
        x.tell(k & 4095);
        int made = x.completed(12);
        for (int i = 0; i < 6; i++) {
            x.tell(1 << (i + k) % 6);
        }
        int six = x.take();
        x.turn(six);
        x.exchange(six, true, k % 6, (k + 1) % 6);
        long total = x.like(twelve, made) + x.image(twelve, made, false, 11) + x.symmetries(made) + x.symmetries(six)
                + x.best(sixteen, 0) + x.form(six, 5) + x.determinant(made) + x.tally(big, false, 4)
                + x.part(big, false, 3, 4) + x.nearest(big, k, 3) + x.spectrum(big, 27, true)
                + x.perpendicular(big, 2) + x.norm(big) + x.copy(six) + x.product(six, 0);
        for (int t = 0; t < 6; t++) {
            x.drop(t);
        }
        return total;
    }
}
