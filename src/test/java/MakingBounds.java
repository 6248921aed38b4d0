/** Promises 1 to 12: each sentence that names a bound of how tables are made. */
final class MakingBounds {
    private static final int NONE = Run.NONE;
    private static final String REFUSED = "NONE, and nothing happens: no such ones, the SHELF is full, the ORDER would be above 28.";

    private MakingBounds() {
    }

    static void all() {
        shelfFillsUp();
        newObject();
        tell();
        take();
        residues();
        twice();
        doubled();
        product();
        four();
        bordered();
        completed();
        copy();
        drop();
    }

    // ---- all that make a table

    private static void shelfFillsUp() {
        fillShelfBy(3, "take");
        fillShelfBy(4, "residues", 3);
        fillShelfBy(5, "twice", 5);
        fillShelfBy(6, "doubled", 0);
        fillShelfBy(7, "product", 0, 0);
        fillShelfBy(8, "four", 1, 0, 0, 0, 0);
        fillShelfBy(9, "bordered", 1, 0);
        fillShelfBy(10, "completed", 1);
        fillShelfBy(11, "copy", 0);
    }

    /** Behind a first table by one call alone; a row of one sign is TOLD all the time. */
    private static void fillShelfBy(int promise, String name, Object... arguments) {
        Sentences.begin(promise, "On a SHELF there are 6 PLACES, 0 .. 5, each empty or with a TABLE; "
                + "one that is made goes to the first empty one.");
        Run run = new Run().due(0, "residues", 3);
        for (int t = 1; t <= 5; t++) {
            tellOne(run);
            run.due(t, name, arguments).due((2 << t) - 1, "count", 1);
        }
        tellOne(run);
        run.refused(NONE, name, arguments);
        for (int t : new int[] {5, 1, 3}) {
            run.due(Run.TRUE, "drop", t).due(t, name, arguments).due(63, "count", 1);
            tellOne(run);
            run.refused(NONE, name, arguments);
        }
        run.due(Run.TRUE, "drop", 4).due(Run.TRUE, "drop", 2).due(2, name, arguments);
        tellOne(run);
        run.due(4, name, arguments);
        tellOne(run);
        run.refused(NONE, name, arguments);
    }

    private static void tellOne(Run run) {
        if (run.call("count", 2) == 0) {
            run.due(1, "tell", 1);
        }
    }

    // ---- promise 1

    private static void newObject() {
        shelfIsEmptyAtFirst();
        nothingIsToldAtFirst();
        signalIsZeroAtFirst();
        eachObjectIsNew();
    }

    private static void shelfIsEmptyAtFirst() {
        Sentences.begin(1, "An empty SHELF");
        Run run = new Run().due(0, "count", 0).due(0, "count", 1).due(0, "count", 3);
        for (int t = 0; t < 6; t++) {
            run.due(0, "order", t).refused(Run.FALSE, "drop", t);
        }
        run.due(0, "residues", 3).due(1, "count", 1);
    }

    private static void nothingIsToldAtFirst() {
        Sentences.begin(1, "nothing TOLD");
        new Run().due(0, "count", 2).refused(NONE, "take").due(0, "completed", 2).rowsAre(0, 0, 1).due(1, "tell", 5);
    }

    private static void signalIsZeroAtFirst() {
        Sentences.begin(1, "the SIGNAL 0.");
        Run run = new Run();
        int t = run.plain(28);
        run.due(0, "spectrum", t, 0, false).due(0, "spectrum", t, 27, true);
        for (int i = 0; i < 28; i++) {
            run.due(0, "signal", i, i + 1);
        }
    }

    private static void eachObjectIsNew() {
        Sentences.begin(1, "An empty SHELF; nothing TOLD; the SIGNAL 0.");
        Run first = Run.withFullShelf().due(1, "tell", 3).due(0, "signal", 27, 999);
        new Run().due(0, "count", 0).due(0, "count", 2).due(0, "signal", 27, 1).due(0, "twice", 5);
        first.due(6, "count", 0).due(1, "count", 2).due(999, "signal", 27, 0).due(1, "order", 0);
    }

    // ---- promise 2

    private static void tell() {
        toldRowsAreCounted();
        noMoreThanTwentyEightAreTold();
        rowsBelowZeroAreNotTold();
        rowsOfMoreThanTwentyEightSignsAreNotTold();
    }

    private static void toldRowsAreCounted() {
        Sentences.begin(2, "A row is TOLD: how many there are");
        Run run = new Run();
        for (int k = 1; k <= 28; k++) {
            run.due(k, "tell", 0).due(k, "count", 2);
        }
        run.due(0, "take").due(1, "tell", 0).due(2, "tell", 0);
    }

    private static void noMoreThanTwentyEightAreTold() {
        Sentences.begin(2, "TOLD rows are kept, 28 at most, until they are taken as a TABLE");
        Run run = new Run();
        for (int k = 1; k <= 27; k++) {
            run.due(k, "tell", k);
        }
        run.due(28, "tell", Run.full(28));
        run.refused(NONE, "tell", 0).refused(NONE, "tell", 1).refused(NONE, "tell", Run.full(28));
        run.refused(NONE, "tell", Run.LEAST).refused(NONE, "tell", Run.MOST).due(28, "count", 2);
        run.due(0, "take").due(28, "order", 0).due(1, "bits", 0, true, 0).due(Run.full(28), "bits", 0, true, 27);
        run.due(1, "tell", 0);
    }

    private static void rowsBelowZeroAreNotTold() {
        Sentences.begin(2, "NONE, and it is not: there are 28, below 0");
        Run run = new Run();
        for (int bits : new int[] {-1, -2, -(1 << 28), -(1 << 28) - 1, Run.LEAST + 1, Run.LEAST}) {
            run.refused(NONE, "tell", bits);
        }
        run.due(0, "count", 2).due(1, "tell", 0).due(2, "tell", 1).refused(NONE, "tell", -1).due(2, "count", 2);
        run.due(0, "take").rowsAre(0, 0, 1);
    }

    private static void rowsOfMoreThanTwentyEightSignsAreNotTold() {
        Sentences.begin(2, "2 to the 28 or more");
        Run run = new Run();
        for (int bits : new int[] {1 << 28, (1 << 28) + 1, 1 << 29, 1 << 30, Run.MOST - 1, Run.MOST}) {
            run.refused(NONE, "tell", bits);
        }
        run.due(0, "count", 2).due(1, "tell", Run.full(28)).due(2, "tell", Run.full(28) - 1);
        run.refused(NONE, "tell", 1 << 28).due(2, "count", 2);
    }

    // ---- promise 3

    private static void take() {
        asManyAsAreToldIsTheOrder();
        nothingToTake();
        aRowHasMoreBits();
        takenIntoTheFirstEmptyPlace();
        takenFromAFullShelf();
    }

    private static void asManyAsAreToldIsTheOrder() {
        Sentences.begin(3, "All that is TOLD is taken as a TABLE (nothing is TOLD then)");
        for (int n = 1; n <= 28; n++) {
            Run run = new Run();
            int[] rows = new int[n];
            for (int i = 0; i < n; i++) {
                rows[i] = Run.full(n) ^ (i % 2 == 0 ? 0 : 1 << i);
            }
            Sentences.due("take of " + n, run.lay(rows), 0);
            run.rowsAre(0, rows).trailIsNew(0).due(0, "count", 2).refused(NONE, "take").due(1, "tell", 0);
        }
    }

    private static void nothingToTake() {
        Sentences.begin(3, "NONE, too, and it stays TOLD: there is nothing");
        new Run().refused(NONE, "take").due(1, "tell", 1).due(0, "take").refused(NONE, "take").due(1, "count", 1);
    }

    private static void aRowHasMoreBits() {
        Sentences.begin(3, "a row has more bits.");
        for (int n = 1; n <= 27; n++) {
            for (int at : new int[] {0, n / 2, n - 1}) {
                Run run = new Run();
                int[] rows = new int[n + 1];
                for (int i = 0; i < n; i++) {
                    rows[i] = i == at ? 1 << n : Run.full(n);
                    run.due(i + 1, "tell", rows[i]);
                }
                run.refused(NONE, "take").due(n, "count", 2).due(n + 1, "tell", 0).due(0, "take").rowsAre(0, rows);
            }
        }
        new Run().due(1, "tell", Run.full(28)).refused(NONE, "take").due(1, "count", 2);
    }

    private static void takenIntoTheFirstEmptyPlace() {
        Sentences.begin(3, "one that is made goes to the first empty one");
        for (int t = 0; t < 6; t++) {
            Run run = Run.withFullShelf().due(Run.TRUE, "drop", t);
            if (t < 5) {
                run.due(Run.TRUE, "drop", 5);
            }
            Sentences.due("take with " + t + " empty", run.lay(0, 1), t);
            run.rowsAre(t, 0, 1);
        }
    }

    private static void takenFromAFullShelf() {
        Sentences.begin(3, REFUSED);
        Run run = Run.withFullShelf().due(1, "tell", 0).refused(NONE, "take").due(2, "tell", 3).refused(NONE, "take");
        run.due(2, "count", 2).due(Run.TRUE, "drop", 3).due(3, "take").rowsAre(3, 0, 3).due(0, "count", 2);
    }

    // ---- promise 4

    private static void residues() {
        residuesOfWhichFields();
        residuesByTheirField();
        residuesOnAFullShelf();
    }

    private static void residuesOfWhichFields() {
        Sentences.begin(4, "RESIDUES of q (3 by 4 over): ORDER q and 1");
        for (int q : new int[] {3, 7, 11, 19, 23, 27}) {
            new Run().due(0, "residues", q).due(q + 1, "order", 0).due(1, "perpendicular", 0, 0).trailIsNew(0);
        }
        new Run().refusedAt(0, Run.allBut(3, 7, 11, 19, 23, 27), NONE, "residues", 0).due(0, "count", 1);
    }

    private static void residuesByTheirField() {
        Sentences.begin(4, "row 0 all +; of row i above 0 the sign in column 0 is -, in column j it is + if j is i, "
                + "else by CHI of (element j less 1) less (element i less 1): 1 +, -1 -.");
        for (int q : new int[] {3, 7, 11, 19, 23, 27}) {
            Run run = new Run().due(0, "residues", q).due(0, "bits", 0, true, 0);
            for (int i = 1; i <= q; i++) {
                int row = 1;
                for (int j = 1; j <= q; j++) {
                    boolean plus = j == i || NaiveTables.chi(q, NaiveTables.minus(q, j - 1, i - 1)) == 1;
                    row |= plus ? 0 : 1 << j;
                }
                run.due(row, "bits", 0, true, i);
            }
        }
    }

    private static void residuesOnAFullShelf() {
        Sentences.begin(4, REFUSED);
        Run run = Run.withFullShelf();
        for (int q : new int[] {3, 7, 11, 19, 23, 27, 31}) {
            run.refused(NONE, "residues", q);
        }
        run.due(Run.TRUE, "drop", 5).refused(NONE, "residues", 31).due(5, "residues", 27).due(28, "order", 5);
    }

    // ---- promise 5

    private static void twice() {
        twiceOfWhichFields();
        twiceByItsField();
        twiceOnAFullShelf();
    }

    private static void twiceOfWhichFields() {
        Sentences.begin(5, "TWICE q (1 by 4 over; q 13 at most): ORDER 2 q and 2");
        for (int q : new int[] {5, 9, 13}) {
            new Run().due(0, "twice", q).due(2 * q + 2, "order", 0).due(1, "perpendicular", 0, 0).trailIsNew(0);
        }
        new Run().refusedAt(0, Run.allBut(5, 9, 13), NONE, "twice", 0).due(0, "count", 1);
    }

    private static void twiceByItsField() {
        Sentences.begin(5, "each 0 of it becomes the block (+ - above - -), each 1 the block (+ + above + -), "
                + "each -1 that with all signs turned. Row 2 i and 2 i and 1 are those of i.");
        for (int q : new int[] {5, 9, 13}) {
            Run run = new Run().due(0, "twice", q);
            for (int i = 0; i <= q; i++) {
                int above = 0;
                int below = 0;
                for (int j = 0; j <= q; j++) {
                    int chi = i == 0 || j == 0 ? 1 : NaiveTables.chi(q, NaiveTables.minus(q, i - 1, j - 1));
                    int entry = i == j ? 0 : chi;
                    above |= (entry == 0 ? 0b10 : entry == 1 ? 0b00 : 0b11) << 2 * j;
                    below |= (entry == 0 ? 0b11 : entry == 1 ? 0b10 : 0b01) << 2 * j;
                }
                run.due(above, "bits", 0, true, 2 * i).due(below, "bits", 0, true, 2 * i + 1);
            }
        }
    }

    private static void twiceOnAFullShelf() {
        Sentences.begin(5, REFUSED);
        Run run = Run.withFullShelf().refused(NONE, "twice", 5).refused(NONE, "twice", 9).refused(NONE, "twice", 13);
        run.due(Run.TRUE, "drop", 4).refused(NONE, "twice", 17).due(4, "twice", 13).due(28, "order", 4);
    }

    // ---- promise 6

    private static void doubled() {
        Sentences.begin(6, "DOUBLED: ORDER 2 n: the TABLE four times, the last (below, on the right) with all signs turned.");
        for (int n = 1; n <= 14; n++) {
            Run run = new Run();
            int t = run.layAlike(n, 1 << (n - 1));
            run.due(1, "doubled", t).due(2 * n, "order", 1).trailIsNew(1).due(n, "order", 0);
            for (int i = 0; i < n; i++) {
                int row = 1 << (n - 1);
                run.due(row | row << n, "bits", 1, true, i);
                run.due(row | (Run.full(n) ^ row) << n, "bits", 1, true, n + i);
            }
        }
        doubledTooLarge();
        doubledOfNoTable();
    }

    private static void doubledTooLarge() {
        Sentences.begin(6, "the ORDER would be above 28.");
        for (int n = 13; n <= 28; n++) {
            Run run = new Run();
            int t = run.plain(n);
            if (n <= 14) {
                run.due(1, "doubled", t).due(2 * n, "order", 1);
            } else {
                run.refused(NONE, "doubled", t).due(1, "count", 1);
            }
        }
    }

    private static void doubledOfNoTable() {
        Sentences.begin(6, REFUSED);
        new Run().refusedPlaces(0, NONE, "doubled", 0);
        Run run = new Run().due(0, "residues", 3).due(1, "residues", 3).due(Run.TRUE, "drop", 0);
        run.refusedPlaces(0, NONE, "doubled", 0).due(0, "doubled", 1);
        Run.withFullShelf().refused(NONE, "doubled", 0).refused(NONE, "doubled", 5)
                .due(Run.TRUE, "drop", 2).due(2, "doubled", 5).rowsAre(2, 3, 1);
    }

    // ---- promise 7

    private static void product() {
        productOfAllOrders();
        productWithItself();
        productSigns();
        productOfNoTable();
    }

    private static void productOfAllOrders() {
        Sentences.begin(7, "the ORDER would be above 28.");
        for (int n = 1; n <= 28; n++) {
            for (int m = 1; m <= 28; m++) {
                Run run = new Run();
                int t = run.plain(n);
                int u = run.plain(m);
                if (n * m <= 28) {
                    run.due(2, "product", t, u).due(n * m, "order", 2);
                } else if (n * m <= 40 || n * m >= 700 || n == m) {
                    run.refused(NONE, "product", t, u).due(3, "count", 1);
                } else {
                    run.due(NONE, "product", t, u).due(3, "count", 1);
                }
            }
        }
    }

    private static void productWithItself() {
        Sentences.begin(7, "PRODUCT of one of ORDER n and one of ORDER m");
        for (int n = 1; n <= 6; n++) {
            Run run = new Run();
            int t = run.layAlike(n, Run.full(n));
            if (n <= 5) {
                run.due(1, "product", t, t).due(n * n, "order", 1).due(n * n * n * n, "sum", 1).trailIsNew(1);
            } else {
                run.refused(NONE, "product", t, t);
            }
        }
    }

    private static void productSigns() {
        Sentences.begin(7, "sign in row i m and k, column j m and l: that of the first in i, j times that of the second in k, l.");
        Run run = new Run();
        // The first has - at its last corner alone, the second at its first.
        int t = run.lay(0, 0, 0, 8);
        int u = run.lay(1, 0, 0, 0, 0, 0, 0);
        run.due(2, "product", t, u).due(28, "order", 2);
        int firsts = 1 | 1 << 7 | 1 << 14;
        run.due(firsts | 1 << 21, "bits", 2, true, 0).due(0, "bits", 2, true, 1).due(0, "bits", 2, true, 20);
        run.due(firsts | 126 << 21, "bits", 2, true, 21).due(127 << 21, "bits", 2, true, 27);
        run.due(3, "product", u, t).due(28, "order", 3);
        int lasts = 1 << 7 | 1 << 11 | 1 << 15 | 1 << 19 | 1 << 23 | 1 << 27;
        run.due(15, "bits", 3, true, 0).due(7 | lasts, "bits", 3, true, 3).due(0, "bits", 3, true, 4);
        run.due(8 | lasts, "bits", 3, true, 27);
    }

    private static void productOfNoTable() {
        Sentences.begin(7, REFUSED);
        new Run().refusedPlaces(0, NONE, "product", 0, 0);
        Run run = new Run().due(0, "residues", 3).due(1, "residues", 3).due(2, "residues", 3).due(Run.TRUE, "drop", 1);
        run.refusedPlaces(0, NONE, "product", 0, 2).refusedPlaces(1, NONE, "product", 0, 2);
        run.due(1, "product", 0, 2);
        Run.withFullShelf().refused(NONE, "product", 0, 1).refused(NONE, "product", 5, 5)
                .due(Run.TRUE, "drop", 0).due(0, "product", 5, 4).rowsAre(0, 1);
    }

    // ---- promise 8

    private static void four() {
        fourOfWhichLengths();
        fourRowsOfLength();
        fourBlocks();
        fourOnAFullShelf();
    }

    private static void fourOfWhichLengths() {
        Sentences.begin(8, "FOUR: of four rows A, B, C, D of m signs (m 1 .. 7)");
        for (int m = 1; m <= 7; m++) {
            new Run().due(0, "four", m, 0, 0, 0, 0).due(4 * m, "order", 0).trailIsNew(0);
        }
        new Run().refusedAt(0, Run.outside(1, 7), NONE, "four", 1, 0, 0, 0, 0).due(0, "count", 1);
    }

    private static void fourRowsOfLength() {
        Sentences.begin(8, "FOUR of rows of m signs, as bits.");
        for (int m = 1; m <= 7; m++) {
            for (int position = 1; position <= 4; position++) {
                Object[] arguments = {m, 0, 0, 0, 0};
                Run run = new Run().refusedAt(position, Run.outside(0, Run.full(m)), NONE, "four", arguments);
                arguments[position] = Run.full(m);
                run.due(0, "four", arguments).due(4 * m, "order", 0);
            }
        }
    }

    private static void fourBlocks() {
        Sentences.begin(8, "in row i and column j what the row has at j less i (by its rest by m); set together, ORDER 4 m, "
                + "in rows of blocks: A B C D; B turned, A, D turned, C; C turned, D, A, B turned; D turned, C turned, B, A.");
        for (int m = 1; m <= 7; m++) {
            int last = 1 << (m - 1);
            int[][] words = {{last, 0, 0, 0}, {0, last, 0, 0}, {0, 0, last, 0}, {0, 0, 0, last},
                {1, Run.full(m), last, Run.full(m) ^ 1}, {Run.full(m), Run.full(m), Run.full(m), Run.full(m)}};
            for (int[] word : words) {
                Run run = new Run().due(0, "four", m, word[0], word[1], word[2], word[3]);
                int[][] signs = NaiveTables.fourSigns(m, word[0], word[1], word[2], word[3]);
                for (int i = 0; i < 4 * m; i++) {
                    run.due(NaiveTables.bitsOf(signs[i]), "bits", 0, true, i);
                }
            }
        }
        // Written out once: the last sign of A comes round to the first column in the second row.
        Run run = new Run().due(0, "four", 7, 64, 0, 0, 0);
        run.due(64, "bits", 0, true, 0).due(1, "bits", 0, true, 1).due(32, "bits", 0, true, 6);
        run.due(127 | 64 << 7 | 127 << 14, "bits", 0, true, 7).due(127 | 127 << 7 | 32 << 21, "bits", 0, true, 27);
    }

    private static void fourOnAFullShelf() {
        Sentences.begin(8, REFUSED);
        Run.withFullShelf().refused(NONE, "four", 1, 0, 0, 0, 0).refused(NONE, "four", 7, 0, 0, 0, 0)
                .due(Run.TRUE, "drop", 1).refused(NONE, "four", 8, 0, 0, 0, 0)
                .due(1, "four", 7, 127, 127, 127, 127).due(28, "order", 1);
    }

    // ---- promise 9

    private static void bordered() {
        borderedOfWhichLengths();
        borderedRowOfLength();
        borderedSigns();
        borderedOnAFullShelf();
    }

    private static void borderedOfWhichLengths() {
        Sentences.begin(9, "BORDERED: of a row of m signs (1 .. 27): ORDER m and 1");
        for (int m = 1; m <= 27; m++) {
            new Run().due(0, "bordered", m, 0).due(m + 1, "order", 0).trailIsNew(0);
        }
        new Run().refusedAt(0, Run.outside(1, 27), NONE, "bordered", 1, 0).due(0, "count", 1);
    }

    private static void borderedRowOfLength() {
        Sentences.begin(9, "BORDERED, of a row of m signs as bits.");
        for (int m = 1; m <= 27; m++) {
            Run run = new Run().refusedAt(1, Run.outside(0, Run.full(m)), NONE, "bordered", m, 0);
            run.due(0, "bordered", m, Run.full(m)).due(Run.full(m + 1) - 1, "bits", 0, true, m);
        }
    }

    private static void borderedSigns() {
        Sentences.begin(9, "row 0 and column 0 all +, else the round one of it.");
        for (int m = 1; m <= 27; m++) {
            Run run = new Run().due(0, "bordered", m, 1 << (m - 1)).due(0, "bits", 0, true, 0).due(0, "bits", 0, false, 0);
            run.due(1 << m, "bits", 0, true, 1);
            for (int i = 2; i <= m; i++) {
                run.due(1 << (i - 1), "bits", 0, true, i);
            }
        }
    }

    private static void borderedOnAFullShelf() {
        Sentences.begin(9, REFUSED);
        Run.withFullShelf().refused(NONE, "bordered", 1, 0).refused(NONE, "bordered", 27, 0)
                .due(Run.TRUE, "drop", 5).refused(NONE, "bordered", 28, 0).due(5, "bordered", 27, 0).due(28, "order", 5);
    }

    // ---- promise 10

    private static final int[] ORDERS = {1, 2, 4, 8, 12};

    private static void completed() {
        completedToWhichOrders();
        completedFromNothing();
        completedFromAllRows();
        completedFromTooManyRows();
        completedFromLongRows();
        completedFromSlantRows();
        completedWhereItCannotBe();
        completedLeastRowsBehind();
        completedOnAFullShelf();
    }

    private static void completedToWhichOrders() {
        Sentences.begin(10, "COMPLETED to an ORDER n (1, 2, 4, 8, 12)");
        for (int n : ORDERS) {
            new Run().due(0, "completed", n).due(n, "order", 0).due(1, "perpendicular", 0, 0).trailIsNew(0);
        }
        int[] others = Run.allBut(ORDERS);
        new Run().refusedAt(0, others, NONE, "completed", 0).due(0, "count", 1);
        new Run().due(1, "tell", 0).refusedAt(0, others, NONE, "completed", 0).due(1, "count", 2).due(0, "completed", 1);
    }

    private static void completedFromNothing() {
        Sentences.begin(10, "of several ways that of which the first row behind is the least number, then the next one, and so on.");
        new Run().due(0, "completed", 1).rowsAre(0, 0).due(1, "completed", 2).rowsAre(1, 0, 1)
                .due(2, "completed", 4).rowsAre(2, 0, 3, 5, 6)
                .due(3, "completed", 8).rowsAre(3, 0, 15, 51, 60, 85, 90, 102, 105)
                .due(4, "completed", 12)
                .rowsAre(4, 0, 63, 455, 729, 874, 948, 1260, 1393, 1434, 1622, 1699, 1805);
        // Rows that were TOLD for another one leave nothing behind.
        for (int n : ORDERS) {
            new Run().due(1, "tell", Run.full(n)).due(0, "completed", n).due(1, "completed", n)
                    .due(Run.full(n), "bits", 0, true, 0).due(0, "bits", 1, true, 0)
                    .due(Run.full(n / 2), "bits", 1, true, n == 1 ? 0 : 1);
        }
    }

    private static void completedFromAllRows() {
        Sentences.begin(10, "(what is TOLD is so no more, if it can be)");
        int[][] tables = {{1}, {2, 3}, {6, 5, 3, 15}, {105, 0, 102, 15, 90, 51, 85, 60},
            {4095, 63, 455, 729, 874, 948, 1260, 1393, 1434, 1622, 1699, 1805}};
        for (int[] rows : tables) {
            int n = rows.length;
            for (int told = 0; told <= n; told++) {
                Run run = new Run();
                for (int i = 0; i < told; i++) {
                    run.due(i + 1, "tell", rows[i]);
                }
                run.due(0, "completed", n).due(n, "order", 0).due(1, "perpendicular", 0, 0).due(0, "count", 2);
                for (int i = 0; i < told; i++) {
                    run.due(rows[i], "bits", 0, true, i);
                }
                run.trailIsNew(0).refused(NONE, "take").due(1, "tell", 0);
            }
        }
    }

    private static void completedFromTooManyRows() {
        Sentences.begin(10, "all TOLD rows ahead");
        int[][] tables = {{0}, {0, 1}, {0, 3, 5, 6}, {0, 15, 51, 60, 85, 90, 102, 105},
            {0, 63, 455, 729, 874, 948, 1260, 1393, 1434, 1622, 1699, 1805}};
        for (int[] rows : tables) {
            Run run = new Run();
            for (int row : rows) {
                run.call("tell", row);
            }
            run.due(rows.length + 1, "tell", 0).refused(NONE, "completed", rows.length).due(rows.length + 1, "count", 2);
        }
        Run run = new Run();
        for (int k = 0; k < 28; k++) {
            run.call("tell", 0);
        }
        run.refusedAt(0, ORDERS, NONE, "completed", 0).due(28, "count", 2).due(0, "take");
    }

    private static void completedFromLongRows() {
        Sentences.begin(10, "NONE, and nothing happens: no such ones");
        for (int n : ORDERS) {
            new Run().due(1, "tell", 1 << n).refused(NONE, "completed", n).due(1, "count", 2);
            new Run().due(1, "tell", Run.full(28)).refused(NONE, "completed", n).due(1, "count", 2);
            new Run().due(1, "tell", Run.full(n)).due(0, "completed", n).due(Run.full(n), "bits", 0, true, 0);
        }
        // The second row would be perpendicular to the first but for its length.
        new Run().due(1, "tell", 0).due(2, "tell", 4 | 1).refused(NONE, "completed", 2).due(2, "count", 2);
    }

    private static void completedFromSlantRows() {
        Sentences.begin(10, "so that it is PERPENDICULAR");
        for (int n : new int[] {2, 4, 8, 12}) {
            for (int second : new int[] {0, Run.full(n), 1 << (n / 2), Run.full(n / 2 + 1)}) {
                if (2 * Integer.bitCount(second) != n) {
                    new Run().due(1, "tell", 0).due(2, "tell", second).refused(NONE, "completed", n).due(2, "count", 2);
                }
            }
        }
        new Run().due(1, "tell", 0).due(2, "tell", 3).due(3, "tell", 5).due(4, "tell", 5)
                .refused(NONE, "completed", 4).due(4, "count", 2).due(0, "take");
    }

    private static void completedWhereItCannotBe() {
        Sentences.begin(10, "COMPLETED to an ORDER (what is TOLD is so no more, if it can be).");
        // Perpendicular rows whose tally is 12, which no perpendicular table of 12 has.
        int[] rows = {0, 0b000000111111, 0b000111000111, 0b000111111000};
        Run run = new Run();
        for (int i = 0; i < 4; i++) {
            run.due(i + 1, "tell", rows[i]);
        }
        run.refused(NONE, "completed", 12).due(4, "count", 2).due(0, "count", 1);
        new Run().due(1, "tell", rows[0]).due(2, "tell", rows[1]).due(3, "tell", rows[2]).due(0, "completed", 12)
                .due(495, "tally", 0, true, 4);
    }

    private static void completedLeastRowsBehind() {
        Sentences.begin(10, "all TOLD rows ahead, others behind them");
        new Run().due(1, "tell", 1).due(0, "completed", 1).rowsAre(0, 1);
        new Run().due(1, "tell", 3).due(0, "completed", 2).rowsAre(0, 3, 1);
        new Run().due(1, "tell", 2).due(0, "completed", 2).rowsAre(0, 2, 0);
        new Run().due(1, "tell", 5).due(2, "tell", 9).due(0, "completed", 4).rowsAre(0, 5, 9, 0, 3);
        new Run().due(1, "tell", 8).due(0, "completed", 4).rowsAre(0, 8, 1, 2, 4);
        new Run().due(1, "tell", 15).due(2, "tell", 6).due(3, "tell", 12).due(0, "completed", 4).rowsAre(0, 15, 6, 12, 5);
    }

    private static void completedOnAFullShelf() {
        Sentences.begin(10, REFUSED);
        Run run = Run.withFullShelf().refusedAt(0, ORDERS, NONE, "completed", 0).due(1, "tell", 1);
        run.refusedAt(0, ORDERS, NONE, "completed", 0).due(1, "count", 2);
        run.due(Run.TRUE, "drop", 0).due(0, "completed", 1).rowsAre(0, 1).due(0, "count", 2);
    }

    // ---- promise 11

    private static void copy() {
        copiesAreApart();
        copyBeginsItsTrail();
        copyOfNoTable();
    }

    private static void copiesAreApart() {
        Sentences.begin(11, "A TABLE like another one as it stands");
        for (int n : new int[] {1, 2, 28}) {
            Run run = new Run();
            run.layAlike(n, 1);
            run.due(1, "copy", 0).due(Run.TRUE, "sign", 0, true, n - 1).due(2, "copy", 0);
            run.due(1, "bits", 1, true, n - 1).due(Run.full(n) - 1, "bits", 2, true, n - 1);
            run.due(Run.TRUE, "sign", 2, false, 0).due(Run.full(n) - 1, "bits", 0, true, n - 1).due(1, "bits", 1, true, n - 1);
            run.due(Run.TRUE, "drop", 0).due(n, "order", 1).due(n, "order", 2).due(0, "copy", 2);
            run.due(Run.full(n), "bits", 0, true, n - 1);
        }
    }

    private static void copyBeginsItsTrail() {
        Sentences.begin(11, "(its TRAIL begins anew)");
        Run run = new Run().due(0, "residues", 7).due(Run.TRUE, "sign", 0, true, 7).due(Run.TRUE, "sign", 0, false, 0);
        run.due(Run.TRUE, "exchange", 0, true, 0, 7).due(Run.TRUE, "exchange", 0, false, 1, 6).due(Run.TRUE, "turn", 0);
        run.due(1, "copy", 0).trailIsNew(1).due(1, "trail", 0, false, 0, 1).due(7, "trail", 0, false, 0, 0);
        for (int i = 0; i < 8; i++) {
            run.due(run.call("bits", 0, true, i), "bits", 1, true, i);
        }
    }

    private static void copyOfNoTable() {
        Sentences.begin(11, REFUSED);
        new Run().refusedPlaces(0, NONE, "copy", 0);
        Run run = new Run().due(0, "residues", 3).refusedPlaces(0, NONE, "copy", 0);
        for (int t = 1; t < 6; t++) {
            run.due(t, "copy", t - 1);
        }
        run.refusedAt(0, new int[] {0, 1, 2, 3, 4, 5}, NONE, "copy", 0).refusedAt(0, Run.outside(0, 5), NONE, "copy", 0);
        run.due(Run.TRUE, "drop", 2).due(2, "copy", 5).rowsAre(2, 0, 9, 3, 5);
    }

    // ---- promise 12

    private static void drop() {
        droppedPlaceIsEmpty();
        nothingElseIsDropped();
        dropOfNoTable();
    }

    private static void droppedPlaceIsEmpty() {
        Sentences.begin(12, "A PLACE becomes empty: true");
        for (int t = 0; t < 6; t++) {
            Run run = Run.withFullShelf().due(Run.TRUE, "drop", t).due(0, "order", t).due(63 - (1 << t), "count", 1);
            run.due(5, "count", 0).due(63 - (1 << t), "count", 3).due(NONE, "bits", t, true, 0).due(t, "residues", 3);
            run.rowsAre(t, 0, 9, 3, 5).trailIsNew(t);
        }
    }

    private static void nothingElseIsDropped() {
        Sentences.begin(12, "A PLACE becomes empty");
        Run run = new Run().due(0, "residues", 3).due(1, "residues", 7).due(1, "tell", 6).due(0, "signal", 3, -5);
        run.due(Run.TRUE, "drop", 0).due(1, "count", 2).due(-5, "signal", 3, -5).due(8, "order", 1);
        run.due(2, "tell", 0).refused(NONE, "take").due(3, "tell", 7).due(0, "take").rowsAre(0, 6, 0, 7);
    }

    private static void dropOfNoTable() {
        Sentences.begin(12, "false: it is, no such one.");
        new Run().refusedPlaces(0, Run.FALSE, "drop", 0);
        Run.withFullShelf().refusedPlaces(0, Run.FALSE, "drop", 0).due(Run.TRUE, "drop", 3)
                .refusedPlaces(0, Run.FALSE, "drop", 0).due(Run.TRUE, "drop", 5).due(Run.TRUE, "drop", 0)
                .refusedPlaces(0, Run.FALSE, "drop", 0).due(22, "count", 1);
    }
}
