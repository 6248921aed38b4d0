/** Promises 18 to 28: each sentence that names a bound of what is told of a table. */
final class SeenBounds {
    private static final int NONE = Run.NONE;
    private static final int TRUE = Run.TRUE;
    private static final String REFUSED = "what there is: NONE, if nothing else is told: no such ones.";

    private SeenBounds() {
    }

    static void all() {
        order();
        bits();
        trail();
        along();
        perpendicular();
        sum();
        best();
        tally();
        part();
        form();
        determinant();
    }

    // ---- promise 18

    private static void order() {
        Sentences.begin(18, "A TABLE of an ORDER n, 1 .. 28");
        for (int n = 1; n <= 28; n++) {
            Run run = new Run();
            int t = run.plain(n);
            run.told(n, "order", t);
        }
        Sentences.begin(18, "ORDER; 0 of an empty PLACE.");
        Run run = Run.withFullShelf();
        for (int t = 0; t < 6; t++) {
            run.told(1, "order", t).due(TRUE, "drop", t).told(0, "order", t);
        }
        Sentences.begin(18, REFUSED);
        run.refusedAt(0, Run.outside(0, 5), NONE, "order", 0);
        Run.withFullShelf().refusedAt(0, Run.outside(0, 5), NONE, "order", 0);
    }

    // ---- promise 19

    private static void bits() {
        Sentences.begin(19, "bit j is 1 for - in column j.");
        for (int n : new int[] {1, 2, 27, 28}) {
            Run run = new Run();
            int[] rows = new int[n];
            rows[0] = Run.full(n);
            int t = run.lay(rows);
            run.told(Run.full(n), "bits", t, true, 0).told(n == 1 ? 1 : 0, "bits", t, true, n - 1);
            run.told(1, "bits", t, false, 0).told(1, "bits", t, false, n - 1);
            int u = run.layAlike(n, 1 << (n - 1));
            run.told(1 << (n - 1), "bits", u, true, n - 1).told(Run.full(n), "bits", u, false, n - 1);
            run.told(n == 1 ? 1 : 0, "bits", u, false, 0);
        }
        Sentences.begin(19, REFUSED);
        for (boolean row : new boolean[] {true, false}) {
            for (int n : new int[] {1, 6, 28}) {
                Run run = new Run();
                run.plain(n);
                run.refusedAt(2, Run.outside(0, n - 1), NONE, "bits", 0, row, 0);
                run.refusedPlaces(0, NONE, "bits", 0, row, 0);
            }
        }
    }

    // ---- promise 20

    private static void trail() {
        Sentences.begin(20, "TRAIL: of each row and column of it as it stands the number of that which it was when the TABLE was made");
        for (int n : new int[] {1, 2, 28}) {
            Run run = new Run();
            int t = run.plain(n);
            run.trailIsNew(t);
        }
        Run moved = new Run();
        moved.plain(28);
        moved.due(TRUE, "exchange", 0, true, 0, 27).due(TRUE, "sign", 0, true, 0).due(TRUE, "exchange", 0, true, 0, 1);
        moved.told(27, "trail", 0, true, 1, 0).told(1, "trail", 0, true, 1, 1).told(1, "trail", 0, true, 0, 0);
        moved.told(0, "trail", 0, true, 0, 1).told(0, "trail", 0, true, 27, 0).told(0, "trail", 0, true, 27, 1);
        moved.told(0, "trail", 0, false, 0, 0).told(27, "trail", 0, false, 27, 0);
        Sentences.begin(20, "what 0 the number, 1 whether signed (1, 0), 2 whether it was a row then (1, 0).");
        for (boolean row : new boolean[] {true, false}) {
            Run run = new Run().due(0, "residues", 3);
            run.told(row ? 1 : 0, "trail", 0, row, 3, 2).refusedAt(3, Run.outside(0, 2), NONE, "trail", 0, row, 3, 0);
            run.due(TRUE, "turn", 0).told(row ? 0 : 1, "trail", 0, row, 3, 2);
        }
        Sentences.begin(20, REFUSED);
        for (boolean row : new boolean[] {true, false}) {
            for (int n : new int[] {1, 6, 28}) {
                for (int what = 0; what < 3; what++) {
                    Run run = new Run();
                    run.plain(n);
                    run.refusedAt(2, Run.outside(0, n - 1), NONE, "trail", 0, row, 0, what);
                    run.refusedPlaces(0, NONE, "trail", 0, row, 0, what);
                }
            }
        }
    }

    // ---- promise 21

    private static void along() {
        Sentences.begin(21, "The sum of products of two rows, or columns.");
        for (int n : new int[] {1, 2, 27, 28}) {
            Run run = new Run();
            int[] rows = new int[n];
            rows[n - 1] = Run.full(n);
            int t = run.lay(rows);
            run.told(n, "along", t, true, 0, 0).told(n, "along", t, true, n - 1, n - 1);
            run.told(n == 1 ? 1 : -n, "along", t, true, 0, n - 1).told(n == 1 ? 1 : -n, "along", t, true, n - 1, 0);
            run.told(n, "along", t, false, 0, n - 1).told(n, "along", t, false, n - 1, n - 1);
        }
        Sentences.begin(21, "-1000: no such ones.");
        for (boolean row : new boolean[] {true, false}) {
            for (int n : new int[] {1, 6, 28}) {
                Run run = new Run();
                run.plain(n);
                run.refusedAt(2, Run.outside(0, n - 1), Run.NO_SUM, "along", 0, row, 0, 0);
                run.refusedAt(3, Run.outside(0, n - 1), Run.NO_SUM, "along", 0, row, 0, 0);
                run.refusedPlaces(0, Run.NO_SUM, "along", 0, row, 0, 0);
            }
        }
    }

    // ---- promise 22

    private static void perpendicular() {
        perpendicularWithoutPairs();
        perpendicularPairs();
        perpendicularNowhere();
    }

    private static void perpendicularWithoutPairs() {
        Sentences.begin(22, "PERPENDICULAR: of each two unlike rows the products of signs, column by column "
                + "(+ counting 1, - counting -1), come to 0 together.");
        Run run = new Run();
        for (int row = 0; row < 2; row++) {
            int t = run.lay(row);
            run.told(1, "perpendicular", t, 0).told(-2, "perpendicular", t, 1).told(0, "perpendicular", t, 2);
        }
        int two = run.lay(0, 2);
        run.told(1, "perpendicular", two, 0).told(-2, "perpendicular", two, 1).told(0, "perpendicular", two, 2);
        // Rows are unlike by their numbers, whatever their signs.
        int alike = run.lay(2, 2);
        run.told(0, "perpendicular", alike, 0).told(1, "perpendicular", alike, 1).told(1, "perpendicular", alike, 2);
        run.due(4, "residues", 27).told(1, "perpendicular", 4, 0).told(-2, "perpendicular", 4, 1);
        run.told(0, "perpendicular", 4, 2);
        // Columns alone are perpendicular nowhere: rows are what counts.
        int rows = run.lay(0, 3, 0, 3);
        run.told(0, "perpendicular", rows, 0).told(2, "perpendicular", rows, 1).told(2, "perpendicular", rows, 2);
    }

    private static void perpendicularPairs() {
        Sentences.begin(22, "the first pair of rows that are not (28 times the lesser, and the other one; by the lesser) "
                + "(1; -2: there is none); how many pairs are not (2).");
        Run run = new Run();
        int plain = run.plain(28);
        run.told(0, "perpendicular", plain, 0).told(1, "perpendicular", plain, 1).told(378, "perpendicular", plain, 2);
        int from = (int) run.call("residues", 27);
        int[][] pairs = {{26, 27}, {0, 27}, {1, 2}, {3, 20}};
        for (int[] pair : pairs) {
            int[] rows = new int[28];
            for (int i = 0; i < 28; i++) {
                rows[i] = (int) run.call("bits", from, true, i == pair[1] ? pair[0] : i);
            }
            int t = run.lay(rows);
            run.told(0, "perpendicular", t, 0).told(28 * pair[0] + pair[1], "perpendicular", t, 1);
            run.told(1, "perpendicular", t, 2);
        }
        Run four = new Run();
        // 1 and 2, 1 and 3, 2 and 3 are not; by the lesser, 1 and 2 come first.
        int t = four.lay(0, 3, 3, 12);
        four.told(28 + 2, "perpendicular", t, 1).told(3, "perpendicular", t, 2);
    }

    private static void perpendicularNowhere() {
        Sentences.begin(22, REFUSED);
        Run run = new Run();
        run.lay(0, 1);
        run.refusedAt(1, Run.outside(0, 2), NONE, "perpendicular", 0, 0);
        for (int what = 0; what < 3; what++) {
            run.refusedPlaces(0, NONE, "perpendicular", 0, what);
        }
    }

    // ---- promise 23

    private static void sum() {
        Sentences.begin(23, "SUM: of all signs.");
        for (int n = 1; n <= 28; n++) {
            Run run = new Run();
            int plus = run.plain(n);
            int minus = run.layAlike(n, Run.full(n));
            int mixed = run.layAlike(n, 1 << (n - 1));
            run.told(n * n, "sum", plus).told(-n * n, "sum", minus).told(n * n - 2 * n, "sum", mixed);
        }
        Sentences.begin(23, "SUM; -1000: no such one.");
        new Run().refusedPlaces(0, Run.NO_SUM, "sum", 0);
        Run.withFullShelf().refusedPlaces(0, Run.NO_SUM, "sum", 0).due(TRUE, "drop", 0).due(TRUE, "drop", 5)
                .refusedPlaces(0, Run.NO_SUM, "sum", 0);
    }

    // ---- promise 24

    private static void best() {
        bestUpToSixteen();
        bestOfMixedSigns();
        bestLeastSet();
        bestFollowsTheTable();
        bestNowhere();
    }

    private static void bestUpToSixteen() {
        Sentences.begin(24, "BEST (ORDER 16 at most): the greatest SUM that can come by signing rows and columns");
        for (int n = 1; n <= 28; n++) {
            Run run = new Run();
            int t = run.layAlike(n, Run.full(n));
            run.told(n <= 16 ? n * n : -2, "best", t, 0).told(n <= 16 ? 0 : -2, "best", t, 1);
            int u = run.plain(n);
            run.due(TRUE, "sign", u, false, 0).due(TRUE, "sign", u, true, n - 1);
            if (n <= 16) {
                run.told(n * n, "best", u, 0).told(n == 1 ? 0 : 1, "best", u, 1);
            } else {
                run.told(-2, "best", u, 0).told(-2, "best", u, 1);
            }
        }
    }

    /** Rows without a rule, so that each row and each column counts; the answers by trying all sets. */
    private static int[] mixedRows(int n, int seed) {
        int[] rows = new int[n];
        long drawn = seed;
        for (int i = 0; i < n; i++) {
            drawn = drawn * 6364136223846793005L + 1442695040888963407L;
            rows[i] = (int) (drawn >>> 36) & Run.full(n);
        }
        return rows;
    }

    private static void bestOfMixedSigns() {
        Sentences.begin(24, "the greatest SUM that can come by signing rows and columns; by which columns (the least set as bits)");
        for (int n = 1; n <= 16; n++) {
            for (int seed = 0; seed < (n <= 10 ? 40 : 3); seed++) {
                int[] rows = mixedRows(n, seed);
                NaiveTables naive = NaiveTables.of(rows);
                Run run = new Run();
                int t = run.lay(rows);
                run.due(naive.best(0, 0), "best", t, 0).due(naive.best(0, 1), "best", t, 1);
            }
        }
    }

    private static void bestLeastSet() {
        Sentences.begin(24, "by which columns (the least set as bits): rows are signed where that makes theirs greater.");
        for (int n = 2; n <= 16; n++) {
            Run run = new Run();
            // Signing the last column, or all others: the others are the lesser set.
            int last = run.layAlike(n, 1 << (n - 1));
            run.told(n * n, "best", last, 0).told(Run.full(n - 1), "best", last, 1);
            int others = run.layAlike(n, Run.full(n - 1));
            run.told(n * n, "best", others, 0).told(Run.full(n - 1), "best", others, 1);
        }
        Run run = new Run();
        // Signing no column brings 2, and so does each set: none is the least.
        int t = run.lay(0, 1);
        run.told(2, "best", t, 0).told(0, "best", t, 1);
        int one = run.lay(1);
        run.told(1, "best", one, 0).told(0, "best", one, 1);
    }

    private static void bestFollowsTheTable() {
        Sentences.begin(24, "BEST: what 0 the SUM, 1 columns (bits)");
        Run run = new Run();
        int t = run.layAlike(4, 1);
        run.told(1, "best", t, 1).due(TRUE, "sign", t, false, 0).told(0, "best", t, 1);
        run.due(TRUE, "sign", t, false, 2).told(4, "best", t, 1).due(TRUE, "exchange", t, false, 1, 2).told(2, "best", t, 1);
        run.due(TRUE, "turn", t).told(0, "best", t, 1).due(TRUE, "turn", t).told(2, "best", t, 1);
        run.due(1, "norm", t).told(0, "best", t, 1).told(16, "best", t, 0);
        run.due(TRUE, "drop", t).due(0, "residues", 3).told(8, "best", 0, 0).told(1, "best", 0, 1);
        run.due(TRUE, "exchange", 0, true, 0, 3).told(8, "best", 0, 0).told(1, "best", 0, 1);
        // Rows 5, 9, 3, 0 become 4, 8, 2, 1, with one - each.
        run.due(TRUE, "switched", 0, 0, 1, 2, 3, 0).told(8, "best", 0, 0).told(0, "best", 0, 1);
    }

    private static void bestNowhere() {
        Sentences.begin(24, REFUSED);
        for (int n : new int[] {1, 16}) {
            Run run = new Run();
            run.plain(n);
            run.refusedAt(1, Run.outside(0, 1), NONE, "best", 0, 0);
            run.refusedPlaces(0, NONE, "best", 0, 0).refusedPlaces(0, NONE, "best", 0, 1);
        }
    }

    // ---- promise 25

    private static int choose(int n, int k) {
        int ways = 1;
        for (int i = 0; i < k; i++) {
            ways = ways * (n - i) / (i + 1);
        }
        return n < k ? 0 : ways;
    }

    private static void tally() {
        tallyOfAllOrders();
        tallyOfSizes();
        tallyNowhere();
    }

    private static void tallyOfAllOrders() {
        Sentences.begin(25, "TALLY of v: how many sets of four unlike rows (of columns: four columns) have v");
        for (boolean row : new boolean[] {true, false}) {
            for (int n = 1; n <= 28; n++) {
                Run run = new Run();
                int t = run.plain(n);
                run.told(choose(n, 4), "tally", t, row, n).told(0, "tally", t, row, n - 1).told(0, "tally", t, row, n + 1);
                run.told(0, "tally", t, row, Run.MOST).told(0, "tally", t, row, 0);
            }
        }
    }

    private static void tallyOfSizes() {
        Sentences.begin(25, "have v as the size of the sum, column by column, of their signs' products.");
        for (boolean row : new boolean[] {true, false}) {
            Run run = new Run();
            // The products of rows are -, -, -, +, those of columns -, +, +, +.
            int t = run.lay(7, 0, 0, 0);
            run.told(1, "tally", t, row, 2).told(0, "tally", t, row, 0);
            run.told(0, "tally", t, row, 4).told(0, "tally", t, row, 1);
            int u = run.lay(15, 0, 0, 0);
            run.told(1, "tally", u, row, 4).told(0, "tally", u, row, 0);
            int half = run.lay(3, 0, 0, 0);
            run.told(row ? 1 : 0, "tally", half, row, 0).told(row ? 0 : 1, "tally", half, row, 4);
        }
    }

    private static void tallyNowhere() {
        Sentences.begin(25, "TALLY of v (0 or more) by rows, or by columns.");
        int[] below = {-1, -2, -4, -28, -29, -1000, Run.LEAST + 1, Run.LEAST};
        for (boolean row : new boolean[] {true, false}) {
            for (int n : new int[] {1, 4, 28}) {
                Run run = new Run();
                run.plain(n);
                run.refusedAt(2, below, NONE, "tally", 0, row, 0).refusedPlaces(0, NONE, "tally", 0, row, n);
            }
        }
    }

    // ---- promise 26

    private static void part() {
        Sentences.begin(26, "TALLY of v of those sets of four that have row i, or column i.");
        for (boolean row : new boolean[] {true, false}) {
            for (int n = 1; n <= 28; n++) {
                Run run = new Run();
                int t = run.plain(n);
                for (int i : new int[] {0, n / 2, n - 1}) {
                    run.told(choose(n - 1, 3), "part", t, row, i, n);
                }
                run.told(0, "part", t, row, 0, n + 1).told(0, "part", t, row, 0, Run.MOST).told(0, "part", t, row, 0, 0);
            }
        }
        partOfUnlikeRows();
        Sentences.begin(26, REFUSED);
        int[] below = {-1, -2, -4, -28, -29, -1000, Run.LEAST + 1, Run.LEAST};
        for (boolean row : new boolean[] {true, false}) {
            for (int n : new int[] {1, 4, 28}) {
                Run run = new Run();
                run.plain(n);
                run.refusedAt(3, below, NONE, "part", 0, row, 0, 0);
                run.refusedAt(2, Run.outside(0, n - 1), NONE, "part", 0, row, 0, n);
                run.refusedPlaces(0, NONE, "part", 0, row, 0, n);
            }
        }
    }

    private static void partOfUnlikeRows() {
        Sentences.begin(26, "of those sets of four that have row i");
        Run run = new Run();
        // Fours with row 4 have a sum of 3, the one four without it a sum of 5.
        int t = run.lay(0, 0, 0, 0, 1);
        for (int i = 0; i < 4; i++) {
            run.told(1, "part", t, true, i, 5).told(3, "part", t, true, i, 3);
        }
        run.told(0, "part", t, true, 4, 5).told(4, "part", t, true, 4, 3);
        // Fours with column 0 have -1 once: 3; the one four without it 5.
        run.told(4, "part", t, false, 0, 3).told(0, "part", t, false, 0, 5).told(1, "part", t, false, 4, 5);
        run.told(3, "part", t, false, 4, 3);
    }

    // ---- promise 27

    private static void form() {
        Sentences.begin(27, "LEAST FORM of a TABLE (ORDER 6 at most)");
        for (int n = 1; n <= 28; n++) {
            Run run = new Run();
            int t = run.layAlike(n, Run.full(n));
            run.told(n <= 6 ? 0 : -2, "form", t, 0).told(n <= 6 ? 0 : -2, "form", t, n - 1);
        }
        Run eight = new Run().due(0, "residues", 7).told(-2, "form", 0, 0).told(-2, "form", 0, 7);
        eight.due(1, "bordered", 6, 0).told(-2, "form", 1, 0).told(-2, "form", 1, 6);
        formIsTheLeast();
        Sentences.begin(27, REFUSED);
        for (int n : new int[] {1, 2, 6}) {
            Run run = new Run();
            run.plain(n);
            run.refusedAt(1, Run.outside(0, n - 1), NONE, "form", 0, 0).refusedPlaces(0, NONE, "form", 0, 0);
        }
    }

    private static void formIsTheLeast() {
        Sentences.begin(27, "of all that can come of it by signing and exchanging rows and columns that whose row 0 "
                + "(as a number) is least, of these row 1, and so on.");
        for (int n = 2; n <= 6; n++) {
            Run run = new Run();
            int[] rows = new int[n];
            // One sign is -: it can stand in the last row and the first column, and no lower row has to have one.
            rows[0] = 1 << (n - 1);
            int t = run.lay(rows);
            for (int i = 0; i < n; i++) {
                run.told(i == n - 1 ? 1 : 0, "form", t, i);
            }
        }
        Run run = new Run();
        int t = run.lay(62, 61, 59, 55, 47, 31);
        int[] due = {0, 3, 5, 9, 17, 30};
        for (int i = 0; i < 6; i++) {
            run.told(due[i], "form", t, i);
        }
        for (int n = 1; n <= 6; n++) {
            for (int seed = 0; seed < (n <= 4 ? 40 : 8); seed++) {
                formIsThatOfTrying(mixedRows(n, seed));
            }
        }
    }

    private static void formIsThatOfTrying(int[] rows) {
        NaiveTables naive = NaiveTables.of(rows);
        Run run = new Run();
        int t = run.lay(rows);
        for (int i = 0; i < rows.length; i++) {
            run.due(naive.form(0, i), "form", t, i);
        }
    }

    // ---- promise 28

    private static void determinant() {
        Sentences.begin(28, "What a TABLE (ORDER 12 at most) comes to as a determinant");
        for (int n = 1; n <= 28; n++) {
            Run run = new Run();
            int[] rows = new int[n];
            for (int i = 1; i < n; i++) {
                rows[i] = 1 << i;
            }
            // Row 0 taken from each other leaves -2 along the middle; without any - it is 0 from ORDER 2 on.
            int t = run.lay(rows);
            int u = run.plain(n);
            long due = 1;
            for (int i = 1; i < n; i++) {
                due *= -2;
            }
            run.told(n <= 12 ? due : Run.NO_AMOUNT, "determinant", t);
            run.told(n > 12 ? Run.NO_AMOUNT : n == 1 ? 1 : 0, "determinant", u);
        }
        determinantAtItsGreatest();
        Sentences.begin(28, "-1000000000: no such one.");
        new Run().refusedPlaces(0, Run.NO_AMOUNT, "determinant", 0);
        Run.withFullShelf().refusedPlaces(0, Run.NO_AMOUNT, "determinant", 0).due(TRUE, "drop", 1)
                .refusedPlaces(0, Run.NO_AMOUNT, "determinant", 0);
    }

    private static void determinantAtItsGreatest() {
        Sentences.begin(28, "comes to as a determinant");
        Run run = new Run().due(0, "completed", 12);
        long due = run.call("determinant", 0);
        Sentences.due("the size of a determinant of 12", Math.abs(due), 2985984);
        run.due(TRUE, "exchange", 0, true, 0, 11).told(-due, "determinant", 0);
        run.due(TRUE, "sign", 0, false, 11).told(due, "determinant", 0).due(TRUE, "turn", 0).told(due, "determinant", 0);
        run.due(1, "residues", 3).told(16, "determinant", 1).due(2, "bordered", 1, 1).told(-2, "determinant", 2);
        int one = run.lay(1);
        run.told(-1, "determinant", one);
    }
}
