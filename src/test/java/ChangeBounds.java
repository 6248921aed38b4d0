/** Promises 13 to 17: each sentence that names a bound of how tables are changed. */
final class ChangeBounds {
    private static final int NONE = Run.NONE;
    private static final int TRUE = Run.TRUE;
    private static final int FALSE = Run.FALSE;
    private static final String REFUSED = "changes: true; false, and nothing happens: no such ones.";

    private ChangeBounds() {
    }

    static void all() {
        sign();
        exchange();
        turn();
        switched();
        norm();
    }

    // ---- promise 13

    private static void sign() {
        signedAtBothEnds();
        signedTwice();
        signedNowhere();
    }

    private static void signedAtBothEnds() {
        Sentences.begin(13, "a row or a column is signed (all its signs are turned)");
        for (int n : new int[] {1, 2, 27, 28}) {
            for (int i : new int[] {0, n - 1}) {
                Run run = new Run();
                int t = run.plain(n);
                run.due(TRUE, "sign", t, true, i).due(Run.full(n), "bits", t, true, i).due(1, "trail", t, true, i, 1);
                run.due(n * n - 2 * n, "sum", t).due(0, "trail", t, false, i, 1);
                run.due(TRUE, "sign", t, false, i).due(Run.full(n) ^ 1 << i, "bits", t, false, i);
                run.due(Run.full(n) ^ 1 << i, "bits", t, true, i).due(1, "trail", t, false, i, 1);
                run.due(n * n - 4 * n + 4, "sum", t).due(i, "trail", t, true, i, 0).due(i, "trail", t, false, i, 0);
            }
        }
    }

    private static void signedTwice() {
        Sentences.begin(13, "and whether it is signed since");
        for (boolean row : new boolean[] {true, false}) {
            Run run = new Run().due(0, "residues", 3);
            run.due(TRUE, "sign", 0, row, 3).due(1, "trail", 0, row, 3, 1).due(TRUE, "sign", 0, row, 3);
            run.rowsAre(0, 0, 9, 3, 5).trailIsNew(0).due(TRUE, "sign", 0, row, 3).due(1, "trail", 0, row, 3, 1);
        }
    }

    private static void signedNowhere() {
        Sentences.begin(13, REFUSED);
        for (boolean row : new boolean[] {true, false}) {
            for (int n : new int[] {1, 5, 28}) {
                Run run = new Run();
                run.plain(n);
                run.refusedAt(2, Run.outside(0, n - 1), FALSE, "sign", 0, row, 0);
                run.refusedPlaces(0, FALSE, "sign", 0, row, 0);
            }
            new Run().refusedPlaces(0, FALSE, "sign", 0, row, 0);
        }
    }

    // ---- promise 14

    private static void exchange() {
        exchangedAtBothEnds();
        exchangedWithItself();
        exchangedNowhere();
    }

    private static void exchangedAtBothEnds() {
        Sentences.begin(14, "two rows, two columns are exchanged");
        for (int n : new int[] {2, 3, 28}) {
            for (int first : new int[] {0, n - 1}) {
                int second = n - 1 - first;
                Run run = new Run();
                int[] rows = new int[n];
                rows[0] = 1;
                rows[1] |= 1 << (n - 1);
                int t = run.lay(rows);
                run.due(TRUE, "exchange", t, true, first, second).due(1, "bits", t, true, n - 1);
                run.due(0, "trail", t, true, n - 1, 0).due(n - 1, "trail", t, true, 0, 0).due(0, "trail", t, false, 0, 0);
                run.due(TRUE, "exchange", t, false, first, second).due(1 << (n - 1), "bits", t, true, n - 1);
                run.due(0, "trail", t, false, n - 1, 0).due(n - 1, "trail", t, false, 0, 0);
                run.due(1, "bits", t, true, n == 2 ? 0 : 1);
            }
        }
    }

    private static void exchangedWithItself() {
        Sentences.begin(14, "Two unlike rows, or columns, are exchanged.");
        for (boolean row : new boolean[] {true, false}) {
            for (int n : new int[] {1, 2, 28}) {
                Run run = new Run();
                int t = run.plain(n);
                run.refused(FALSE, "exchange", t, row, 0, 0).refused(FALSE, "exchange", t, row, n - 1, n - 1);
                run.refused(FALSE, "exchange", t, row, n / 2, n / 2);
            }
            // Rows with the same signs are two rows still.
            Run run = new Run();
            int t = run.plain(3);
            run.due(TRUE, "exchange", t, row, 0, 2).due(2, "trail", t, row, 0, 0).due(0, "trail", t, row, 2, 0);
        }
    }

    private static void exchangedNowhere() {
        Sentences.begin(14, REFUSED);
        for (boolean row : new boolean[] {true, false}) {
            for (int n : new int[] {1, 5, 28}) {
                Run run = new Run();
                run.plain(n);
                run.refusedAt(2, Run.outside(0, n - 1), FALSE, "exchange", 0, row, 0, 0);
                run.refusedAt(3, Run.outside(0, n - 1), FALSE, "exchange", 0, row, 0, 0);
                run.refused(FALSE, "exchange", 0, row, n, n).refused(FALSE, "exchange", 0, row, -1, -1);
                run.refused(FALSE, "exchange", 0, row, Run.LEAST, Run.MOST).refused(FALSE, "exchange", 0, row, -1, n);
                run.refusedPlaces(0, FALSE, "exchange", 0, row, 0, 1);
            }
            new Run().refusedPlaces(0, FALSE, "exchange", 0, row, 0, 1);
        }
    }

    // ---- promise 15

    private static void turn() {
        turnedAllOrders();
        trailsAreExchanged();
        turnedNowhere();
    }

    private static void turnedAllOrders() {
        Sentences.begin(15, "it is turned (rows become columns)");
        for (int n = 1; n <= 28; n++) {
            Run run = new Run();
            int[] rows = new int[n];
            rows[0] = Run.full(n);
            rows[n - 1] = 1;
            int t = run.lay(rows);
            run.due(TRUE, "turn", t).due(n == 1 ? 1 : 1 | 1 << (n - 1), "bits", t, true, 0);
            run.due(1, "bits", t, true, n - 1).due(n == 1 ? 1 : Run.full(n), "bits", t, false, 0);
            run.due(1, "bits", t, false, n - 1).due(TRUE, "turn", t).rowsAre(t, rows).trailIsNew(t);
        }
    }

    private static void trailsAreExchanged() {
        Sentences.begin(15, "turned, rows and columns have exchanged their TRAILS (a row's TRAIL is a column's then)");
        Run run = new Run().due(0, "residues", 27).due(TRUE, "sign", 0, true, 27).due(TRUE, "exchange", 0, true, 0, 27);
        run.due(TRUE, "turn", 0).due(27, "trail", 0, false, 0, 0).due(1, "trail", 0, false, 0, 1);
        run.due(1, "trail", 0, false, 0, 2).due(0, "trail", 0, true, 0, 0).due(0, "trail", 0, true, 0, 1);
        run.due(0, "trail", 0, true, 0, 2).due(TRUE, "sign", 0, true, 5).due(1, "trail", 0, true, 5, 1);
        run.due(TRUE, "turn", 0).due(1, "trail", 0, false, 5, 1).due(27, "trail", 0, true, 0, 0).due(1, "trail", 0, true, 0, 2);
    }

    private static void turnedNowhere() {
        Sentences.begin(15, REFUSED);
        new Run().refusedPlaces(0, FALSE, "turn", 0);
        Run run = new Run();
        run.lay(1, 1);
        run.refusedPlaces(0, FALSE, "turn", 0);
        Run.withFullShelf().refusedPlaces(0, FALSE, "turn", 0);
    }

    // ---- promise 16

    private static void switched() {
        switchedColumns();
        switchedAtTheLeastOrder();
        switchedAtTheGreatestOrder();
        switchedBySize();
        switchedOtherTallies();
        switchedRowsUnlike();
        switchedBeginsTheTrail();
        switchedNowhere();
    }

    private static void switchedColumns() {
        Sentences.begin(16, "in all columns that in these four rows are as column j is, or against it in all four, "
                + "the signs of these rows are turned");
        // Columns of the four rows: ++++, ----, +-+-, -+-+, ++++; row 4 is never one of them.
        int[] rows = {0b01010, 0b00110, 0b01010, 0b00110, 0b10101};
        int[] sets = {0b10011, 0b10011, 0b01100, 0b01100, 0b10011};
        for (int j = 0; j < 5; j++) {
            Run run = new Run();
            int t = run.lay(rows);
            run.due(TRUE, "switched", t, 2, 0, 3, 1, j);
            run.rowsAre(t, rows[0] ^ sets[j], rows[1] ^ sets[j], rows[2] ^ sets[j], rows[3] ^ sets[j], rows[4]);
            run.due(TRUE, "switched", t, 0, 1, 2, 3, j).rowsAre(t, rows);
        }
    }

    private static void switchedAtTheLeastOrder() {
        Sentences.begin(16, "of four unlike rows that in the TALLY have n, the ORDER, and a column j");
        for (int n = 1; n <= 3; n++) {
            Run run = new Run();
            int t = run.plain(n);
            run.refused(FALSE, "switched", t, 0, 1, 2, 3, 0).refused(FALSE, "switched", t, 0, 0, 0, 0, 0);
        }
        Run run = new Run();
        int t = run.plain(4);
        run.refused(FALSE, "switched", t, 0, 1, 2, 4, 0).refused(FALSE, "switched", t, 0, 1, 2, 3, 4);
        run.due(TRUE, "switched", t, 0, 1, 2, 3, 3).rowsAre(t, 15, 15, 15, 15);
    }

    private static void switchedAtTheGreatestOrder() {
        Sentences.begin(16, "It is SWITCHED.");
        Run run = new Run();
        int t = run.plain(28);
        run.due(TRUE, "sign", t, false, 27).due(TRUE, "switched", t, 27, 26, 1, 0, 27);
        run.due(Run.full(27), "bits", t, true, 27).due(Run.full(27), "bits", t, true, 0).due(1 << 27, "bits", t, true, 2);
        run.refused(FALSE, "switched", t, 28, 26, 1, 0, 27).refused(FALSE, "switched", t, 27, 26, 1, 0, 28);
    }

    private static void switchedBySize() {
        Sentences.begin(16, "have v as the size of the sum, column by column, of their signs' products.");
        // All products are -, so that the sum is -4 and its size 4.
        Run run = new Run();
        int t = run.lay(15, 0, 0, 0);
        run.due(1, "tally", t, true, 4).due(TRUE, "switched", t, 0, 1, 2, 3, 2).rowsAre(t, 0, 15, 15, 15);
    }

    private static void switchedOtherTallies() {
        Sentences.begin(16, "four unlike rows that in the TALLY have n, the ORDER");
        // All columns but one, for and against: the size is the ORDER less 2.
        for (int n = 4; n <= 28; n++) {
            for (int first : new int[] {1, 1 << (n - 1), Run.full(n) - 1, Run.full(n - 1)}) {
                Run run = new Run();
                int[] rows = new int[n];
                rows[n - 1] = first;
                int t = run.lay(rows);
                run.refused(FALSE, "switched", t, 0, 1, 2, n - 1, 0);
                if (n > 4) {
                    run.due(TRUE, "switched", t, 0, 1, 2, 3, 0).due(Run.full(n), "bits", t, true, 3);
                }
            }
        }
    }

    private static void switchedRowsUnlike() {
        Sentences.begin(16, "of four unlike rows");
        Run run = new Run();
        int t = run.plain(5);
        for (int one = 0; one < 4; one++) {
            for (int other = 0; other < 4; other++) {
                Integer[] rows = {4, 3, 2, 1};
                rows[one] = rows[other];
                if (one != other) {
                    run.refused(FALSE, "switched", t, rows[0], rows[1], rows[2], rows[3], 0);
                }
            }
        }
        run.refused(FALSE, "switched", t, 0, 0, 1, 1, 0).refused(FALSE, "switched", t, 2, 2, 2, 2, 0);
        run.due(TRUE, "switched", t, 4, 3, 2, 1, 0).rowsAre(t, 0, 31, 31, 31, 31);
    }

    private static void switchedBeginsTheTrail() {
        Sentences.begin(16, "its TRAIL begins anew.");
        Run run = new Run().due(0, "residues", 7).due(TRUE, "sign", 0, true, 7).due(TRUE, "exchange", 0, false, 0, 7);
        run.due(TRUE, "turn", 0).due(0, "trail", 0, true, 0, 2);
        boolean found = false;
        for (int d = 3; d < 8 && !found; d++) {
            found = run.call("switched", 0, 0, 1, 2, d, 0) == TRUE;
        }
        Sentences.due("a four of the tally 8 is found", found ? 1 : 0, 1);
        run.trailIsNew(0).due(1, "perpendicular", 0, 0);
    }

    private static void switchedNowhere() {
        Sentences.begin(16, REFUSED);
        for (int n : new int[] {4, 28}) {
            Run run = new Run();
            run.plain(n);
            for (int position = 1; position <= 5; position++) {
                run.refusedAt(position, Run.outside(0, n - 1), FALSE, "switched", 0, 0, 1, 2, 3, 0);
            }
            run.refusedPlaces(0, FALSE, "switched", 0, 0, 1, 2, 3, 0);
        }
        new Run().refusedPlaces(0, FALSE, "switched", 0, 0, 1, 2, 3, 0);
    }

    // ---- promise 17

    private static void norm() {
        normedMostAndLeast();
        normedColumnsFirst();
        normedNowhere();
    }

    private static void normedMostAndLeast() {
        Sentences.begin(17, "It is NORMED: how many rows and columns were signed");
        for (int n = 1; n <= 28; n++) {
            Run run = new Run();
            int[] rows = new int[n];
            rows[0] = Run.full(n);
            int t = run.lay(rows);
            run.due(2 * n - 1, "norm", t).due(n * n, "sum", t).due(0, "norm", t).due(0, "trail", t, true, 0, 1);
            run.due(1, "trail", t, false, 0, 1).due(1, "trail", t, false, n - 1, 1);
            run.due(n == 1 ? 0 : 1, "trail", t, true, n - 1, 1);
            int u = run.plain(n);
            run.due(0, "norm", u).due(n * n, "sum", u).trailIsNew(u);
        }
    }

    private static void normedColumnsFirst() {
        Sentences.begin(17, "each column with - in row 0 is signed, then each row with - in column 0.");
        Run run = new Run();
        // Row 2 has + in column 0, but - when the column is signed.
        int t = run.lay(0b001, 0b011, 0b010);
        run.due(2, "norm", t).rowsAre(t, 0, 0b010, 0b100);
        run.due(1, "trail", t, false, 0, 1).due(0, "trail", t, true, 1, 1).due(1, "trail", t, true, 2, 1);
        // In row 0 alone: the last column; in column 0 alone: the last row.
        int u = run.lay(0b100, 0, 0b001);
        run.due(2, "norm", u).rowsAre(u, 0, 0b100, 0b010);
    }

    private static void normedNowhere() {
        Sentences.begin(17, "NONE: no such one.");
        new Run().refusedPlaces(0, NONE, "norm", 0);
        Run run = new Run();
        run.lay(3, 3);
        run.refusedPlaces(0, NONE, "norm", 0);
        Run.withFullShelf().refusedPlaces(0, NONE, "norm", 0);
    }
}
