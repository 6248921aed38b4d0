/** Promises 29 to 33: each sentence that names a bound of witnesses and of the network. */
final class WitnessBounds {
    private static final int NONE = Run.NONE;
    private static final int TRUE = Run.TRUE;
    private static final String REFUSED = "NONE, if nothing else is told: no such ones.";

    private WitnessBounds() {
    }

    static void all() {
        like();
        image();
        symmetries();
        joined();
        common();
    }

    /** A PERPENDICULAR table of an ORDER that is a multiple of 4. */
    private static int straight(Run run, int n) {
        return n == 16 ? (int) run.call("doubled", (int) run.call("residues", 7)) : (int) run.call("residues", n - 1);
    }

    /** How many orders a number of things has. */
    private static long orders(int n) {
        long ways = 1;
        for (int k = 2; k <= n; k++) {
            ways *= k;
        }
        return ways;
    }

    // ---- promise 29

    private static void like() {
        likeUpToSix();
        likeUpToTwelve();
        likeOfUnlikeOrders();
        likeOrNot();
        likeOfNoTable();
    }

    private static void likeUpToSix() {
        Sentences.begin(29, "WITNESS from a TABLE t to u of one ORDER (6 at most, or 12 at most and both PERPENDICULAR)");
        for (int n = 1; n <= 28; n++) {
            Run run = new Run();
            int t = run.plain(n);
            run.told(n <= 6 ? 1 : -2, "like", t, t);
            int u = run.layAlike(n, 1);
            run.told(n <= 6 ? 1 : -2, "like", t, u).told(n <= 6 ? 1 : -2, "like", u, t);
        }
    }

    private static void likeUpToTwelve() {
        Sentences.begin(29, "-2: unlike ORDERS, or these are above 6 and not both PERPENDICULAR and 12 at most.");
        for (int n : new int[] {4, 8, 12, 16, 20, 24, 28}) {
            Run run = new Run();
            int t = straight(run, n);
            int u = (int) run.call("copy", t);
            int slant = run.plain(n);
            run.due(TRUE, "sign", u, true, n - 1).due(TRUE, "exchange", u, false, 0, n - 1).due(TRUE, "sign", u, false, 1);
            long due = n <= 12 ? 1 : -2;
            run.told(due, "like", t, u).told(due, "like", u, t).told(due, "like", t, t);
            long mixed = n <= 6 ? 0 : -2;
            run.told(mixed, "like", t, slant).told(mixed, "like", slant, t).told(n <= 6 ? 1 : -2, "like", slant, slant);
        }
    }

    private static void likeOfUnlikeOrders() {
        Sentences.begin(29, "-2: unlike ORDERS");
        for (int n = 1; n <= 27; n++) {
            Run run = new Run();
            int t = run.plain(n);
            int u = run.plain(n + 1);
            run.told(-2, "like", t, u).told(-2, "like", u, t);
        }
        Run run = new Run().due(0, "residues", 7).due(1, "residues", 11).due(2, "residues", 3);
        run.told(-2, "like", 0, 1).told(-2, "like", 1, 0).told(-2, "like", 2, 0).told(-2, "like", 1, 2);
    }

    private static void likeOrNot() {
        Sentences.begin(29, "Whether there is a WITNESS (1, 0)");
        for (int n = 2; n <= 6; n++) {
            Run run = new Run();
            int plain = run.plain(n);
            int[] rows = new int[n];
            rows[n - 1] = 1 << (n - 1);
            int corner = run.lay(rows);
            rows[n - 1] = 0;
            rows[0] = Run.full(n) - 1;
            int other = run.lay(rows);
            run.told(0, "like", plain, corner).told(0, "like", corner, plain).told(1, "like", corner, other);
            run.told(1, "like", other, corner).told(0, "like", other, plain);
        }
        Run run = new Run().due(0, "completed", 12).due(1, "residues", 11).due(2, "twice", 5).due(3, "four", 3, 0, 6, 6, 6);
        run.told(1, "like", 0, 1).told(1, "like", 1, 2).told(1, "like", 2, 3).told(1, "like", 3, 0);
        Run one = new Run();
        int plus = one.lay(0);
        int minus = one.lay(1);
        one.told(1, "like", plus, minus).told(1, "like", minus, plus);
    }

    private static void likeOfNoTable() {
        Sentences.begin(29, REFUSED);
        new Run().refusedPlaces(0, NONE, "like", 0, 0);
        Run run = new Run().due(0, "residues", 3);
        run.refusedPlaces(0, NONE, "like", 0, 0).refusedPlaces(1, NONE, "like", 0, 0);
        Run.withFullShelf().refusedPlaces(0, NONE, "like", 0, 0).refusedPlaces(1, NONE, "like", 0, 0);
    }

    // ---- promise 30

    private static void image() {
        imageOfWhichOrders();
        imageOfTheFirst();
        imageAtBothEnds();
        imageWhereThereIsNone();
        imageOfNoTable();
    }

    private static void imageOfWhichOrders() {
        Sentences.begin(30, "-2: there is none (as in like(), too).");
        for (boolean row : new boolean[] {true, false}) {
            for (int n = 1; n <= 28; n++) {
                Run run = new Run();
                int t = run.plain(n);
                run.told(n <= 6 ? 0 : -2, "image", t, t, row, 0).told(n <= 6 ? 2 * n - 2 : -2, "image", t, t, row, n - 1);
            }
            for (int n : new int[] {4, 8, 12, 16, 20, 24, 28}) {
                Run run = new Run();
                int t = straight(run, n);
                int slant = run.plain(n);
                run.told(n <= 12 ? 0 : -2, "image", t, t, row, 0).told(n <= 12 ? 2 * n - 2 : -2, "image", t, t, row, n - 1);
                run.told(-2, "image", t, slant, row, 0).told(-2, "image", slant, t, row, n - 1);
            }
            for (int n = 1; n <= 27; n++) {
                Run run = new Run();
                int t = run.plain(n);
                int u = run.plain(n + 1);
                run.told(-2, "image", t, u, row, 0).told(-2, "image", u, t, row, 0);
            }
        }
    }

    private static void imageOfTheFirst() {
        Sentences.begin(30, "The first of several: by the image of row 0 (less numbers first, of one + first), "
                + "then of row 1 .., then of column 0 ...");
        for (int n = 1; n <= 6; n++) {
            Run run = new Run();
            int plus = run.plain(n);
            int minus = run.layAlike(n, Run.full(n));
            // All rows go with + to those of the same number, so that columns bear the signs.
            for (int i = 0; i < n; i++) {
                run.told(2 * i, "image", plus, minus, true, i).told(2 * i + 1, "image", plus, minus, false, i);
                run.told(2 * i, "image", minus, plus, true, i).told(2 * i + 1, "image", minus, plus, false, i);
            }
            int last = run.layAlike(n, 1 << (n - 1));
            for (int i = 0; i < n; i++) {
                int signed = i == n - 1 ? 1 : 0;
                run.told(2 * i + signed, "image", plus, last, false, i).told(2 * i + signed, "image", last, plus, false, i);
                run.told(2 * i + 1 - signed, "image", last, minus, false, i).told(2 * i, "image", last, last, false, i);
            }
        }
        Run run = new Run();
        int t = run.lay(0b001, 0, 0);
        int u = run.lay(0, 0, 0b100);
        // The row with - can go to row 2 alone, the others, in their order, to rows 0 and 1; so can columns.
        run.told(4, "image", t, u, true, 0).told(0, "image", t, u, true, 1).told(2, "image", t, u, true, 2);
        run.told(4, "image", t, u, false, 0).told(0, "image", t, u, false, 1).told(2, "image", t, u, false, 2);
        // Row 2 has one -, that of the other table two: it goes with the sign -.
        int from = run.lay(0, 0, 0b100);
        int to = run.lay(0, 0, 0b011);
        run.told(0, "image", from, to, true, 0).told(2, "image", from, to, true, 1).told(5, "image", from, to, true, 2);
        run.told(0, "image", from, to, false, 0).told(2, "image", from, to, false, 1).told(4, "image", from, to, false, 2);
    }

    private static void imageAtBothEnds() {
        Sentences.begin(30, "The image of a row, or a column of t by the first WITNESS: 2 times its number in u, 1 more with the sign -");
        for (int n : new int[] {4, 8, 12}) {
            Run run = new Run();
            int t = straight(run, n);
            int u = (int) run.call("copy", t);
            run.due(TRUE, "sign", u, false, n - 1);
            for (int i = 0; i < n; i++) {
                run.told(2 * i, "image", t, u, true, i).told(i == n - 1 ? 2 * i + 1 : 2 * i, "image", t, u, false, i);
            }
            run.due(TRUE, "sign", t, true, n - 1).told(2 * n - 1, "image", t, u, true, n - 1);
        }
    }

    private static void imageWhereThereIsNone() {
        Sentences.begin(30, "-2: there is none");
        Run run = new Run();
        int t = run.lay(0, 0, 0, 0, 0, 0);
        int u = run.lay(0, 0, 0, 0, 0, 1);
        for (int i = 0; i < 6; i++) {
            run.told(-2, "image", t, u, true, i).told(-2, "image", t, u, false, i);
            run.told(-2, "image", u, t, true, i).told(-2, "image", u, t, false, i);
        }
    }

    private static void imageOfNoTable() {
        Sentences.begin(30, REFUSED);
        for (boolean row : new boolean[] {true, false}) {
            for (int n : new int[] {1, 6}) {
                Run run = new Run();
                run.plain(n);
                run.refusedAt(3, Run.outside(0, n - 1), NONE, "image", 0, 0, row, 0);
                run.refusedPlaces(0, NONE, "image", 0, 0, row, 0).refusedPlaces(1, NONE, "image", 0, 0, row, 0);
            }
            Run run = new Run().due(0, "residues", 11).refusedAt(3, Run.outside(0, 11), NONE, "image", 0, 0, row, 0);
            run.refusedPlaces(0, NONE, "image", 0, 0, row, 11).refusedPlaces(1, NONE, "image", 0, 0, row, 11);
        }
    }

    // ---- promise 31

    private static void symmetries() {
        Sentences.begin(31, "SYMMETRIES of a TABLE (likewise): how many WITNESSES from it to itself there are.");
        for (int n = 1; n <= 6; n++) {
            Run run = new Run();
            int t = run.plain(n);
            int u = run.layAlike(n, 1);
            run.told(2 * orders(n) * orders(n), "symmetries", t).told(2 * orders(n) * orders(n), "symmetries", u);
        }
        // One sign is -: its row and its column stay, all others go anywhere.
        for (int n = 3; n <= 6; n++) {
            for (int at : new int[] {0, n - 1}) {
                Run run = new Run();
                int[] rows = new int[n];
                rows[at] = 1 << at;
                int t = run.lay(rows);
                run.told(2 * orders(n - 1) * orders(n - 1), "symmetries", t);
            }
        }
        // - along the middle: rows go with their columns, and from ORDER 5 on in no other way.
        for (int n = 5; n <= 6; n++) {
            Run run = new Run();
            int[] rows = new int[n];
            for (int i = 0; i < n; i++) {
                rows[i] = 1 << i;
            }
            int t = run.lay(rows);
            run.told(2 * orders(n), "symmetries", t);
        }
        Sentences.begin(31, "SYMMETRIES; -2: ORDER above 6 and not (PERPENDICULAR and 12 at most).");
        for (int n = 7; n <= 28; n++) {
            Run run = new Run();
            int t = run.plain(n);
            run.told(-2, "symmetries", t);
        }
        long[] due = {192, 21504, 190080, -2, -2, -2, -2};
        for (int k = 0; k < 7; k++) {
            Run run = new Run();
            int t = straight(run, 4 * k + 4);
            run.told(due[k], "symmetries", t);
        }
        Sentences.begin(31, REFUSED);
        new Run().refusedPlaces(0, NONE, "symmetries", 0);
        Run.withFullShelf().refusedPlaces(0, NONE, "symmetries", 0).due(TRUE, "drop", 4).refusedPlaces(0, NONE, "symmetries", 0);
    }

    // ---- promise 32

    private static void joined() {
        Sentences.begin(32, "knots 0 .. 4 n less 1: 2 i for row i, 2 i and 1 for its other side, "
                + "2 n and 2 j for column j, 2 n and 2 j and 1 for its other side.");
        for (int n = 1; n <= 28; n++) {
            Run run = new Run();
            int t = run.layAlike(n, 1 << (n - 1));
            int last = 4 * n - 1;
            // Column 0 has + (unless it is the last), the last column -.
            run.due(n == 1 ? 0 : 1, "joined", t, 0, 2 * n).due(n == 1 ? 1 : 0, "joined", t, 1, 2 * n);
            run.due(0, "joined", t, 2 * n - 1, last).due(1, "joined", t, 2 * n - 2, last);
            run.due(0, "joined", t, 2 * n - 2, last - 1).due(1, "joined", t, last - 1, 2 * n - 1);
            run.due(0, "joined", t, 0, 0).due(0, "joined", t, last, last).due(0, "joined", t, 0, 2 * n - 1);
            run.due(0, "joined", t, 2 * n, last).due(0, "joined", t, 0, 1).due(0, "joined", t, last - 1, last);
        }
        Sentences.begin(32, "There is a line between row i and column j, and between both other sides, for +, "
                + "between each and the other's other side for -.");
        Run run = new Run();
        int t = run.lay(0, 2);
        int[] reached = {0b01010000, 0b10100000, 0b10010000, 0b01100000, 0b00000101, 0b00001010, 0b00001001, 0b00000110};
        for (int a = 0; a < 8; a++) {
            for (int b = 0; b < 8; b++) {
                run.told(reached[a] >> b & 1, "joined", t, a, b);
            }
        }
        noSuchKnots(32, "joined");
    }

    private static void noSuchKnots(int promise, String name) {
        Sentences.begin(promise, REFUSED);
        for (int n : new int[] {1, 5, 28}) {
            Run run = new Run();
            run.plain(n);
            run.refusedAt(1, Run.outside(0, 4 * n - 1), NONE, name, 0, 0, 0);
            run.refusedAt(2, Run.outside(0, 4 * n - 1), NONE, name, 0, 0, 0);
            run.refusedAt(1, Run.outside(0, 4 * n - 1), NONE, name, 0, 0, 4 * n - 1);
            run.refusedPlaces(0, NONE, name, 0, 0, 0);
        }
        new Run().refusedPlaces(0, NONE, name, 0, 0, 0);
    }

    // ---- promise 33

    private static void common() {
        Sentences.begin(33, "NETWORK: how many knots have lines to both.");
        for (int n = 1; n <= 28; n++) {
            Run run = new Run();
            int[] rows = new int[n];
            rows[n - 1] = 1 << (n - 1);
            int t = run.lay(rows);
            int last = 4 * n - 1;
            int ends = n == 1 ? 1 : n - 1;
            run.due(n, "common", t, 0, 0).due(n, "common", t, last, last).due(0, "common", t, 0, 1);
            run.due(0, "common", t, last - 1, last).due(ends, "common", t, 0, 2 * n - 2).due(ends, "common", t, 1, 2 * n - 1);
            run.due(n - ends, "common", t, 0, 2 * n - 1).due(ends, "common", t, 2 * n, last - 1);
            run.due(n - ends, "common", t, last, 2 * n).due(0, "common", t, 0, 2 * n).due(0, "common", t, last, 2 * n - 1);
        }
        Run run = new Run();
        int t = run.lay(0, 1, 3);
        for (int a = 0; a < 12; a++) {
            for (int b = 0; b < 12; b++) {
                int due = 0;
                for (int knot = 0; knot < 12; knot++) {
                    due += run.call("joined", t, a, knot) == 1 && run.call("joined", t, b, knot) == 1 ? 1 : 0;
                }
                run.told(due, "common", t, a, b);
            }
        }
        noSuchKnots(33, "common");
    }
}
