import java.util.List;

/** Promises 34 to 42: each sentence that names a bound of designs, codes, signals, fields and counts. */
final class UseBounds {
    private static final int NONE = Run.NONE;
    private static final int TRUE = Run.TRUE;
    private static final String REFUSED = "NONE, if nothing else is told: no such ones.";
    private static final int[] FIELDS = {3, 5, 7, 9, 11, 13, 17, 19, 23, 25, 27};

    private UseBounds() {
    }

    static void all() {
        block();
        through();
        halves();
        nearest();
        signal();
        spectrum();
        field();
        fours();
        count();
    }

    // ---- promise 34

    private static void block() {
        blockFromOrderFour();
        blockOfItsOwnRow();
        blockPoints();
        blockOfNothing();
    }

    private static void blockFromOrderFour() {
        Sentences.begin(34, "DESIGN by a row r and a column c (ORDER 4 at least)");
        for (int n = 1; n <= 28; n++) {
            Run run = new Run();
            int t = run.plain(n);
            if (n < 4) {
                run.refused(NONE, "block", t, 0, 0, n - 1).refused(NONE, "block", t, n - 1, n - 1, 0);
            } else {
                run.told(Run.full(n) - 1, "block", t, 0, 0, n - 1).told(Run.full(n - 1), "block", t, n - 1, n - 1, 0);
            }
        }
    }

    private static void blockOfItsOwnRow() {
        Sentences.begin(34, "-2: i is r.");
        for (int n : new int[] {4, 28}) {
            Run run = new Run();
            int t = run.plain(n);
            for (int r : new int[] {0, 1, n - 1}) {
                run.told(-2, "block", t, r, 0, r).told(-2, "block", t, r, n - 1, r);
            }
            run.told(Run.full(n) - 1, "block", t, 0, 0, 1).told(Run.full(n) - 1, "block", t, 1, 0, 0);
        }
    }

    private static void blockPoints() {
        Sentences.begin(34, "columns but c are points; each row but r is a block: of those points in which the sign, "
                + "times those of row r there, of column c in that row, and of row r in column c, is +.");
        int n = 28;
        for (int c : new int[] {0, 27}) {
            int others = Run.full(n) ^ 1 << c;
            int far = 1 << (27 - c);
            Run run = new Run();
            // Rows: +, - at c, - at the other end, - at both, - everywhere.
            int[] rows = new int[n];
            rows[1] = 1 << c;
            rows[2] = far;
            rows[3] = 1 << c | far;
            rows[4] = Run.full(n);
            int t = run.lay(rows);
            run.told(0, "block", t, 0, c, 1).told(others ^ far, "block", t, 0, c, 2).told(far, "block", t, 0, c, 3);
            run.told(others, "block", t, 0, c, 4).told(others, "block", t, 0, c, 5);
            run.told(0, "block", t, 1, c, 0).told(far, "block", t, 1, c, 2).told(others ^ far, "block", t, 1, c, 3);
            run.told(others ^ far, "block", t, 4, c, 2).told(0, "block", t, 4, c, 1);
        }
    }

    private static void blockOfNothing() {
        Sentences.begin(34, REFUSED);
        for (int n : new int[] {4, 28}) {
            Run run = new Run();
            run.plain(n);
            for (int position = 1; position <= 3; position++) {
                run.refusedAt(position, Run.outside(0, n - 1), NONE, "block", 0, 0, 0, 1);
            }
            run.refused(NONE, "block", 0, n, 0, n).refused(NONE, "block", 0, -1, 0, -1);
            run.refusedPlaces(0, NONE, "block", 0, 0, 0, 1);
        }
        new Run().refusedPlaces(0, NONE, "block", 0, 0, 0, 1);
    }

    // ---- promise 35

    private static void through() {
        throughFromOrderFour();
        throughSets();
        throughAllSets();
        throughItsColumn();
        throughNothing();
    }

    private static void throughFromOrderFour() {
        Sentences.begin(35, "DESIGN by a row r and a column c (ORDER 4 at least)");
        for (int n = 1; n <= 28; n++) {
            Run run = new Run();
            int t = run.plain(n);
            if (n < 4) {
                run.refused(NONE, "through", t, 0, 0, 0).refused(NONE, "through", t, n - 1, n - 1, n == 1 ? 0 : 1);
            } else {
                run.told(n - 1, "through", t, 0, 0, 0).told(n - 1, "through", t, n - 1, n - 1, 0);
                run.told(n - 1, "through", t, 0, 0, Run.full(n) - 1).told(n - 1, "through", t, n - 1, n - 1, Run.full(n - 1));
            }
        }
    }

    private static void throughSets() {
        Sentences.begin(35, "how many blocks have all points of a set");
        for (int n : new int[] {4, 8, 12, 20, 24, 28}) {
            Run run = new Run().due(0, "residues", n - 1);
            run.told(n - 1, "through", 0, 0, 0, 0).told(n / 2 - 1, "through", 0, 0, 0, 2);
            run.told(n / 2 - 1, "through", 0, n - 1, 0, 1 << (n - 1)).told(n / 4 - 1, "through", 0, 0, 0, 6);
            run.told(n / 4 - 1, "through", 0, n - 1, 1, 1 | 1 << (n - 1)).told(0, "through", 0, 0, 0, Run.full(n) - 1);
        }
    }

    private static void throughAllSets() {
        Sentences.begin(35, "how many blocks have all points of a set (columns as bits, c not in it).");
        int[] rows = {0b01101, 0b10110, 0b00011, 0b01101, 0b10010};
        NaiveTables naive = NaiveTables.of(rows);
        Run run = new Run();
        int t = run.lay(rows);
        for (int r = 0; r < 5; r++) {
            for (int c = 0; c < 5; c++) {
                for (int set = 0; set < 32; set++) {
                    run.due(naive.through(0, r, c, set), "through", t, r, c, set);
                }
                for (int i = 0; i < 5; i++) {
                    run.due(naive.block(0, r, c, i), "block", t, r, c, i);
                }
            }
        }
    }

    private static void throughItsColumn() {
        Sentences.begin(35, "(columns as bits, c not in it)");
        for (int n : new int[] {4, 28}) {
            Run run = new Run();
            int t = run.plain(n);
            for (int c : new int[] {0, 1, n - 1}) {
                run.refused(NONE, "through", t, 0, c, 1 << c).refused(NONE, "through", t, 0, c, Run.full(n));
                run.told(n - 1, "through", t, 0, c, Run.full(n) ^ 1 << c);
            }
        }
    }

    private static void throughNothing() {
        Sentences.begin(35, REFUSED);
        for (int n : new int[] {4, 28}) {
            Run run = new Run();
            run.plain(n);
            run.refusedAt(1, Run.outside(0, n - 1), NONE, "through", 0, 0, 0, 2);
            run.refusedAt(2, Run.outside(0, n - 1), NONE, "through", 0, 0, 0, 2);
            run.refusedAt(3, Run.outside(0, Run.full(n)), NONE, "through", 0, 0, 0, 2);
            run.refusedAt(3, new int[] {1 << n | 2, -2, -(1 << n)}, NONE, "through", 0, 0, 0, 2);
            run.refusedPlaces(0, NONE, "through", 0, 0, 0, 2);
        }
        new Run().refusedPlaces(0, NONE, "through", 0, 0, 0, 0);
    }

    // ---- promise 36

    private static void halves() {
        Sentences.begin(36, "HALVES by a row r: of each other row two blocks: columns in which it is as row r is, "
                + "columns in which it is not.");
        for (int n = 1; n <= 28; n++) {
            Run run = new Run();
            int t = run.plain(n);
            int[] rows = new int[n];
            rows[0] = Run.full(n);
            int u = run.lay(rows);
            for (int r : new int[] {0, n - 1}) {
                run.told(2 * (n - 1), "halves", t, r, 0).told(n - 1, "halves", t, r, 1);
                run.told(n - 1, "halves", t, r, 1 << (n - 1)).told(n - 1, "halves", t, r, Run.full(n));
                run.told(n - 1, "halves", u, r, Run.full(n)).told(2 * (n - 1), "halves", u, r, 0);
            }
        }
        Sentences.begin(36, "HALVES by r: how many blocks have all columns of a set.");
        for (int n : new int[] {4, 8, 12, 20, 24, 28}) {
            Run run = new Run().due(0, "residues", n - 1);
            for (int r : new int[] {0, n - 1}) {
                run.told(n - 1, "halves", 0, r, 1).told(n / 2 - 1, "halves", 0, r, 3);
                run.told(n / 4 - 1, "halves", 0, r, 3 | 1 << (n - 1)).told(0, "halves", 0, r, Run.full(n));
            }
        }
        halvesOfAllSets();
        Sentences.begin(36, REFUSED);
        for (int n : new int[] {1, 4, 28}) {
            Run run = new Run();
            run.plain(n);
            run.refusedAt(1, Run.outside(0, n - 1), NONE, "halves", 0, 0, 0);
            run.refusedAt(2, Run.outside(0, Run.full(n)), NONE, "halves", 0, 0, 0);
            run.refusedPlaces(0, NONE, "halves", 0, 0, 0);
        }
        new Run().refusedPlaces(0, NONE, "halves", 0, 0, 0);
    }

    private static void halvesOfAllSets() {
        Sentences.begin(36, "how many blocks have all columns of a set.");
        int[] rows = {0b01101, 0b10110, 0b00011, 0b01101, 0b10010};
        NaiveTables naive = NaiveTables.of(rows);
        Run run = new Run();
        int t = run.lay(rows);
        for (int r = 0; r < 5; r++) {
            for (int set = 0; set < 32; set++) {
                run.due(naive.halves(0, r, set), "halves", t, r, set);
            }
        }
    }

    // ---- promise 37

    private static void nearest() {
        nearestAtBothEnds();
        nearestOfSeveral();
        nearestOfNothing();
    }

    private static void nearestAtBothEnds() {
        Sentences.begin(37, "A word that was received has n signs");
        for (int n = 1; n <= 28; n++) {
            Run run = new Run();
            int t = run.plain(n);
            nearestIs(run, t, 0, 0, 0, 0, n);
            nearestIs(run, t, Run.full(n), 0, 1, 0, n);
        }
    }

    private static void nearestIs(Run run, int t, int word, int row, int turned, int apart, int asNear) {
        run.told(row, "nearest", t, word, 0).told(turned, "nearest", t, word, 1);
        run.told(apart, "nearest", t, word, 2).told(asNear, "nearest", t, word, 3);
    }

    private static void nearestOfSeveral() {
        Sentences.begin(37, "NEAREST: of the CODE words, row 0, it turned, row 1, it turned and so on, "
                + "the first that is unlike it in fewest columns.");
        Run run = new Run().due(0, "residues", 3);
        // CODE: 0, 15, 9, 6, 3, 12, 5, 10.
        nearestIs(run, 0, 1, 0, 0, 1, 4);
        nearestIs(run, 0, 14, 0, 1, 1, 4);
        nearestIs(run, 0, 10, 3, 1, 0, 1);
        nearestIs(run, 0, 5, 3, 0, 0, 1);
        int last = run.lay(0, 0, 3);
        nearestIs(run, last, 3, 2, 0, 0, 1);
        nearestIs(run, last, 4, 2, 1, 0, 1);
        nearestIs(run, last, 1, 0, 0, 1, 3);
        // As far from a row as from that row turned: the row itself comes first.
        int two = run.lay(0, 0);
        nearestIs(run, two, 1, 0, 0, 1, 4);
        nearestIs(run, two, 2, 0, 0, 1, 4);
        run.due(3, "residues", 27);
        int row = (int) run.call("bits", 3, true, 27);
        nearestIs(run, 3, row, 27, 0, 0, 1);
        nearestIs(run, 3, row ^ Run.full(28), 27, 1, 0, 1);
        nearestIs(run, 3, row ^ 1 << 27 ^ 7, 27, 0, 4, 1);
        nearestIs(run, 3, row ^ Run.full(28) ^ 63, 27, 1, 6, 1);
    }

    private static void nearestOfNothing() {
        Sentences.begin(37, REFUSED);
        for (int n : new int[] {1, 4, 28}) {
            Run run = new Run();
            run.plain(n);
            run.refusedAt(2, Run.outside(0, 3), NONE, "nearest", 0, 0, 0);
            for (int what = 0; what < 4; what++) {
                run.refusedAt(1, Run.outside(0, Run.full(n)), NONE, "nearest", 0, 0, what);
                run.refusedPlaces(0, NONE, "nearest", 0, 0, what);
            }
        }
        new Run().refusedPlaces(0, NONE, "nearest", 0, 0, 0);
    }

    // ---- promise 38

    private static void signal() {
        Sentences.begin(38, "SIGNAL: up to 28 numbers -999 .. 999 (0 where not told).");
        Run run = new Run();
        for (int i = 0; i < 28; i++) {
            run.due(0, "signal", i, 999).due(999, "signal", i, -999).due(-999, "signal", i, 998);
            run.due(998, "signal", i, -998).due(-998, "signal", i, i);
        }
        for (int i = 0; i < 28; i++) {
            run.due(i, "signal", i, 0);
        }
        Sentences.begin(38, "Number i of the SIGNAL is told: what it was; -1000: no such ones.");
        Run told = new Run().due(0, "signal", 0, 7).due(0, "signal", 27, -7);
        told.refusedAt(0, Run.outside(0, 27), Run.NO_SUM, "signal", 0, 5);
        for (int i : new int[] {0, 1, 27}) {
            told.refusedAt(1, Run.outside(-999, 999), Run.NO_SUM, "signal", i, 0);
        }
        told.refused(Run.NO_SUM, "signal", 28, 1000).refused(Run.NO_SUM, "signal", Run.MOST, Run.LEAST);
        told.due(7, "signal", 0, 999).due(-7, "signal", 27, -999).due(0, "signal", 1, 0);
    }

    // ---- promise 39

    private static void spectrum() {
        spectrumAtItsGreatest();
        spectrumOfItsOwnNumbers();
        spectrumOfNothing();
    }

    private static void spectrumAtItsGreatest() {
        Sentences.begin(39, "SPECTRUM of it by a TABLE: for each row the sum of its signs times numbers; "
                + "BACK: for each column the sum of its signs times the SPECTRUM.");
        for (int sign : new int[] {1, -1}) {
            Run run = new Run();
            int t = run.plain(28);
            for (int i = 0; i < 28; i++) {
                run.due(0, "signal", i, sign * 999);
            }
            for (int i : new int[] {0, 27}) {
                run.told(sign * 27972, "spectrum", t, i, false).told(sign * 783216, "spectrum", t, i, true);
            }
            run.due(TRUE, "sign", t, true, 27).told(sign * -27972, "spectrum", t, 27, false);
            run.told(sign * 783216, "spectrum", t, 27, true).due(TRUE, "sign", t, false, 27);
            run.told(sign * 25974, "spectrum", t, 0, false).told(sign * -25974, "spectrum", t, 27, false);
            run.told(sign * 25974 * 28, "spectrum", t, 0, true).told(sign * 25974 * -28, "spectrum", t, 27, true);
        }
        // By perpendicular rows what comes back is the ORDER times the number.
        Run run = new Run().due(0, "residues", 27).due(0, "signal", 0, 999).due(0, "signal", 13, -1).due(0, "signal", 27, -999);
        run.told(27972, "spectrum", 0, 0, true).told(-28, "spectrum", 0, 13, true).told(-27972, "spectrum", 0, 27, true);
        run.told(0, "spectrum", 0, 1, true);
    }

    private static void spectrumOfItsOwnNumbers() {
        Sentences.begin(39, "SPECTRUM at row i, or (back) BACK at column i");
        for (int n = 1; n <= 28; n++) {
            Run run = new Run();
            int t = run.layAlike(n, 1 << (n - 1));
            run.due(0, "signal", n - 1, 5);
            if (n > 1) {
                run.due(0, "signal", 0, 100);
            }
            if (n < 28) {
                run.due(0, "signal", n, 999);
            }
            int due = n == 1 ? -5 : 95;
            run.told(due, "spectrum", t, 0, false).told(due, "spectrum", t, n - 1, false);
            run.told(n == 1 ? 5 : n * due, "spectrum", t, 0, true).told(-n * due, "spectrum", t, n - 1, true);
        }
    }

    private static void spectrumOfNothing() {
        Sentences.begin(39, "-1000000000: no such ones.");
        for (boolean back : new boolean[] {true, false}) {
            for (int n : new int[] {1, 4, 28}) {
                Run run = new Run();
                run.plain(n);
                run.refusedAt(1, Run.outside(0, n - 1), Run.NO_AMOUNT, "spectrum", 0, 0, back);
                run.refusedPlaces(0, Run.NO_AMOUNT, "spectrum", 0, 0, back);
            }
            new Run().refusedPlaces(0, Run.NO_AMOUNT, "spectrum", 0, 0, back);
        }
    }

    // ---- promise 40

    private static void field() {
        fieldsThereAre();
        fieldWrapsAround();
        fieldsOfParts();
        fieldSquares();
        noSuchElements();
    }

    private static void fieldsThereAre() {
        Sentences.begin(40, "FIELDS q (odd, 3 .. 27): of a prime q: 0 .. q less 1, by their rest by q.");
        Run run = new Run();
        for (int what = 0; what < 4; what++) {
            run.refusedAt(0, Run.allBut(FIELDS), NONE, "field", 0, 0, 0, what);
            run.refusedAt(0, Run.allBut(FIELDS), NONE, "field", 0, 1, 1, what);
        }
        for (int q : FIELDS) {
            run.told(0, "field", q, 0, 0, 0).told(q - 1, "field", q, q - 1, 0, 0);
        }
    }

    private static void fieldWrapsAround() {
        Sentences.begin(40, "what 0 the sum of two elements, 1 the product, 2 the first less the second");
        for (int q : new int[] {3, 5, 7, 11, 13, 17, 19, 23}) {
            Run run = new Run();
            run.due(0, "field", q, q - 1, 1, 0).due(q - 2, "field", q, q - 1, q - 1, 0).due(q - 1, "field", q, q - 2, 1, 0);
            run.due(1, "field", q, q - 1, q - 1, 1).due(0, "field", q, q - 1, 0, 1).due(q - 1, "field", q, 1, q - 1, 1);
            run.due(q - 1, "field", q, 0, 1, 2).due(1, "field", q, 0, q - 1, 2).due(0, "field", q, q - 1, q - 1, 2);
            run.due(q - 1, "field", q, q - 1, 0, 2).due(q - 2, "field", q, q - 1, 1, 2);
        }
    }

    private static void fieldsOfParts() {
        Sentences.begin(40, "Of 9: a + 3 b for a + b x; x times x is -1; of 25: a + 5 b; x times x is 2; "
                + "of 27: a + 3 b + 9 c for a + b x + c xx; x times x times x is x and 1 (a, b, c by their rests by 3, 5).");
        Run run = new Run();
        // Each part comes round for itself.
        run.due(0, "field", 9, 2, 1, 0).due(2, "field", 9, 6, 5, 0).due(4, "field", 9, 8, 8, 0).due(8, "field", 9, 0, 4, 2);
        run.due(0, "field", 25, 4, 1, 0).due(18, "field", 25, 24, 24, 0).due(24, "field", 25, 0, 6, 2).due(0, "field", 25, 20, 5, 0);
        run.due(0, "field", 27, 2, 1, 0).due(13, "field", 27, 26, 26, 0).due(26, "field", 27, 0, 13, 2).due(0, "field", 27, 18, 9, 0);
        run.due(2, "field", 9, 3, 3, 1).due(2, "field", 25, 5, 5, 1);
        run.due(9, "field", 27, 3, 3, 1).due(4, "field", 27, 9, 3, 1).due(12, "field", 27, 9, 9, 1);
        // 2 + 2 x times itself is 8 x and 4 less 4; 4 + 4 x times itself is 32 x and 16 and 32.
        run.due(6, "field", 9, 8, 8, 1).due(3 + 5 * 2, "field", 25, 24, 24, 1);
        for (int q : new int[] {9, 25, 27}) {
            for (int a = 0; a < q; a++) {
                for (int b = 0; b < q; b++) {
                    run.due(NaiveTables.plus(q, a, b), "field", q, a, b, 0);
                    run.due(NaiveTables.times(q, a, b), "field", q, a, b, 1);
                    run.due(NaiveTables.minus(q, a, b), "field", q, a, b, 2);
                }
            }
        }
    }

    private static void fieldSquares() {
        Sentences.begin(40, "SQUARES are products of an element above 0 with itself.");
        for (int q : FIELDS) {
            Run run = new Run();
            boolean[] square = new boolean[q];
            for (int a = 1; a < q; a++) {
                square[(int) run.call("field", q, a, a, 1)] = true;
            }
            int found = 0;
            for (int a = 0; a < q; a++) {
                run.due(square[a] ? 1 : 0, "field", q, a, q - 1, 3);
                found += square[a] ? 1 : 0;
            }
            Sentences.due("squares of " + q, found, (q - 1) / 2);
            run.due(0, "field", q, 0, 0, 3).due(1, "field", q, 1, 0, 3).due(q % 4 == 1 ? 1 : 0, "field", q, minusOne(q), 0, 3);
        }
    }

    private static int minusOne(int q) {
        return q == 9 || q == 27 ? 2 : q == 25 ? 4 : q - 1;
    }

    private static void noSuchElements() {
        Sentences.begin(40, REFUSED);
        for (int q : FIELDS) {
            Run run = new Run();
            for (int what = 0; what < 4; what++) {
                run.refusedAt(1, Run.outside(0, q - 1), NONE, "field", q, 0, 0, what);
                run.refusedAt(2, Run.outside(0, q - 1), NONE, "field", q, 0, 0, what);
            }
            run.refusedAt(3, Run.outside(0, 3), NONE, "field", q, 1, 1, 0);
        }
    }

    // ---- promise 41

    private static void fours() {
        Sentences.begin(41, "FOURS of m (1, 3, 5, 7): of all fours of rows of m signs with + at 0 and like signs at k "
                + "and m less k, those by which FOUR is PERPENDICULAR, in the order of A, then B, C, D (as bits).");
        for (int m : new int[] {1, 3, 5, 7}) {
            List<int[]> due = NaiveTables.allFours(m);
            Run run = new Run();
            for (int i = 0; i < due.size(); i++) {
                for (int what = 0; what < 4; what++) {
                    run.due(due.get(i)[what], "fours", m, i, what);
                }
            }
        }
        Run run = new Run().refusedAt(0, Run.allBut(1, 3, 5, 7), NONE, "fours", 0, NONE, 0);
        run.refusedAt(0, Run.allBut(1, 3, 5, 7), NONE, "fours", 0, 0, 0);
        Sentences.begin(41, "FOURS of m: how many (i NONE, what 0); of the i-th row A (0), B, C, D (3).");
        int[] many = {1, 4, 12, NaiveTables.allFours(7).size()};
        for (int k = 0; k < 4; k++) {
            int m = 2 * k + 1;
            int last = many[k] - 1;
            run.told(many[k], "fours", m, NONE, 0).refusedAt(2, Run.outside(0, 0), NONE, "fours", m, NONE, 0);
            for (int what = 0; what < 4; what++) {
                run.refusedAt(1, Run.outside(-1, last), NONE, "fours", m, 0, what);
            }
            run.refusedAt(2, Run.outside(0, 3), NONE, "fours", m, 0, 0).refusedAt(2, Run.outside(0, 3), NONE, "fours", m, last, 0);
            run.refused(NONE, "fours", m, NONE, 3).refused(NONE, "fours", m, NONE, 1);
        }
        foursAtBothEnds();
    }

    private static void foursAtBothEnds() {
        Sentences.begin(41, "in the order of A, then B, C, D (as bits).");
        Run run = new Run();
        int[][] ends = {{1, 0, 0, 0, 0, 0}, {3, 0, 0, 6, 6, 6}, {3, 1, 6, 0, 6, 6}, {3, 2, 6, 6, 0, 6}, {3, 3, 6, 6, 6, 0}};
        for (int[] end : ends) {
            for (int what = 0; what < 4; what++) {
                run.told(end[2 + what], "fours", end[0], end[1], what);
            }
        }
    }

    // ---- promise 42

    private static void count() {
        Sentences.begin(42, "0 TABLES there are, 1 PLACES with one (bits), 2 rows TOLD, 3 PLACES with PERPENDICULAR ones (bits).");
        Run run = new Run();
        for (int t = 0; t < 6; t++) {
            countsAre(run, t, (1 << t) - 1, 0, (1 << t) - 1);
            run.due(t, "residues", 3);
        }
        countsAre(run, 6, 63, 0, 63);
        run.refused(NONE, "residues", 3);
        for (int k = 1; k <= 28; k++) {
            run.due(k, "tell", 0);
            countsAre(run, 6, 63, k, 63);
        }
        run.refused(NONE, "tell", 0);
        countsAre(run, 6, 63, 28, 63);
        for (int t = 5; t >= 0; t--) {
            run.due(TRUE, "drop", t);
            countsAre(run, t, (1 << t) - 1, 28, (1 << t) - 1);
        }
        run.due(0, "take");
        countsAre(run, 1, 1, 0, 0);
        run.due(1, "completed", 1).due(2, "bordered", 1, 0).due(3, "bordered", 1, 1).due(4, "residues", 27);
        countsAre(run, 5, 31, 0, 26);
        Sentences.begin(42, "NONE for others.");
        run.refusedAt(0, Run.outside(0, 3), NONE, "count", 0);
        new Run().refusedAt(0, Run.outside(0, 3), NONE, "count", 0);
    }

    private static void countsAre(Run run, int tables, int places, int told, int straight) {
        run.told(tables, "count", 0).told(places, "count", 1).told(told, "count", 2).told(straight, "count", 3);
    }
}
