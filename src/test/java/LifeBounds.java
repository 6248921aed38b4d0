/** All promises: an object keeps them up to its 512th call. */
final class LifeBounds {
    private static final String WORDS = "An object is used for at most 512 calls after it has been made; what later calls answer is free.";

    private LifeBounds() {
    }

    static void all() {
        lastCallMakes();
        lastCallChanges();
        lastCallTells();
        lastCallCompares();
        lastCallUses();
        allCallsTell();
        allCallsMake();
        allCallsAreDear();
    }

    /** The call with its answer, as the last one that an object bears. */
    private static void last(int promise, long want, String name, Object... arguments) {
        Sentences.begin(promise, WORDS);
        Run run = new Run().due(0, "residues", 3).due(1, "residues", 11).due(2, "twice", 5).due(1, "tell", 1);
        run.due(0, "signal", 0, 7).idleUntil(Run.MOST_CALLS - 1).due(want, name, arguments);
        Sentences.due("calls of this object", run.callsOfObject(), Run.MOST_CALLS);
    }

    private static void lastCallMakes() {
        last(2, 2, "tell", 0);
        last(3, 3, "take");
        last(4, 3, "residues", 27);
        last(5, 3, "twice", 13);
        last(6, 3, "doubled", 1);
        last(7, 3, "product", 0, 0);
        last(8, 3, "four", 7, 0, 0, 0, 0);
        last(9, 3, "bordered", 27, 0);
        last(10, 3, "completed", 1);
        last(11, 3, "copy", 1);
        last(12, Run.TRUE, "drop", 2);
    }

    private static void lastCallChanges() {
        last(13, Run.TRUE, "sign", 1, false, 11);
        last(14, Run.TRUE, "exchange", 1, true, 0, 11);
        last(15, Run.TRUE, "turn", 1);
        last(16, Run.TRUE, "switched", 0, 0, 1, 2, 3, 0);
        last(17, 11, "norm", 1);
    }

    private static void lastCallTells() {
        last(18, 12, "order", 1);
        last(19, 9, "bits", 0, true, 1);
        last(20, 3, "trail", 0, false, 3, 0);
        last(21, 4, "along", 0, true, 0, 0);
        last(22, 1, "perpendicular", 1, 0);
        last(23, 4, "sum", 0);
        last(24, 8, "best", 0, 0);
        last(25, 495, "tally", 1, true, 4);
        last(26, 165, "part", 1, true, 0, 4);
        last(27, 3, "form", 0, 1);
        last(28, 16, "determinant", 0);
    }

    private static void lastCallCompares() {
        last(29, 1, "like", 1, 2);
        last(30, 6, "image", 0, 0, true, 3);
        last(31, 190080, "symmetries", 2);
        last(32, 1, "joined", 0, 0, 8);
        last(33, 2, "common", 0, 0, 2);
    }

    private static void lastCallUses() {
        last(34, 8, "block", 0, 0, 0, 1);
        last(35, 5, "through", 1, 0, 0, 2);
        last(36, 11, "halves", 1, 0, 1);
        last(37, 4, "nearest", 0, 14, 3);
        last(38, 7, "signal", 0, 1);
        last(39, 7, "spectrum", 0, 0, false);
        last(40, 13, "field", 27, 26, 26, 0);
        last(41, 6, "fours", 3, 0, 1);
        last(42, 3, "count", 0);
    }

    /** Tables of ORDER 28, laid and dropped again as often as 512 calls allow. */
    private static void allCallsTell() {
        Sentences.begin(3, WORDS);
        Run run = new Run();
        for (int round = 0; round < 17; round++) {
            for (int k = 1; k <= 28; k++) {
                run.due(k, "tell", round << 23 | k);
            }
            run.due(0, "take");
            if (round < 16) {
                run.due(Run.TRUE, "drop", 0);
            }
        }
        run.due(16 << 23 | 28, "bits", 0, true, 27);
        Sentences.due("calls of this object", run.callsOfObject(), 510);
    }

    /** A full shelf, one place of it made anew with each second call. */
    private static void allCallsMake() {
        Sentences.begin(12, WORDS);
        Run run = new Run();
        for (int t = 0; t < 6; t++) {
            run.due(t, "residues", 27);
        }
        for (int k = 0; k < 252; k++) {
            run.due(Run.TRUE, "drop", k % 6).due(k % 6, "bordered", 1 + k % 27, 0);
        }
        run.due(63, "count", 1);
        Sentences.due("calls of this object", run.callsOfObject(), 511);
    }

    /** The searches, as often as 512 calls allow, with a change between them. */
    private static void allCallsAreDear() {
        Sentences.begin(31, WORDS);
        Run run = new Run().due(0, "residues", 11).due(1, "bordered", 15, 0).due(2, "bordered", 5, 3).due(3, "completed", 12);
        for (int k = 0; k < 63; k++) {
            run.due(Run.TRUE, "sign", 0, k % 2 == 0, k % 12).due(Run.TRUE, "sign", 1, true, k % 16);
            run.due(190080, "symmetries", 0).due(1, "like", 0, 3).due(256, "best", 1, 0).due(0, "form", 2, 0);
            run.due(Run.NONE, "completed", 11).due(495, "tally", 0, false, 4);
        }
        Sentences.due("calls of this object", run.callsOfObject(), 508);
    }
}
