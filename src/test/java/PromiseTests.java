/** For each promise ordinary inputs, the edges that the document names, and wrong inputs. */
public final class PromiseTests {
    private static final int LEAST = Integer.MIN_VALUE;
    private static final int MOST = Integer.MAX_VALUE;
    private static final int NONE = SignTables.NONE;
    private static final int NO_SUM = -1000;
    private static final int NO_AMOUNT = -1000000000;

    private static int promise;
    private static int wrong;
    private static int checks;

    public static void main(String[] args) {
        tablesAreMade();
        tablesAreChanged();
        tablesAreSeen();
        tablesAreCompared();
        tablesAreUsed();
        System.out.println("PromiseTests: " + checks + " answers, " + wrong + " wrong");
        if (wrong > 0) {
            System.exit(1);
        }
    }

    private static void due(String call, long got, long want) {
        checks++;
        if (got != want) {
            wrong++;
            System.out.println("promise " + promise + ": " + call + " answered " + got + ", due is " + want);
        }
    }

    private static void due(String call, boolean got, boolean want) {
        due(call, got ? 1 : 0, want ? 1 : 0);
    }

    private static void rowsAre(SignTables x, int t, int... rows) {
        due("order", x.order(t), rows.length);
        for (int i = 0; i < rows.length; i++) {
            due("row " + i + " of " + t, x.bits(t, true, i), rows[i]);
        }
    }

    private static int lay(SignTables x, int... rows) {
        for (int row : rows) {
            x.tell(row);
        }
        return x.take();
    }

    private static SignTables full() {
        SignTables x = new SignTables();
        for (int t = 0; t < 6; t++) {
            due("a table of 1", lay(x, t % 2), t);
        }
        return x;
    }

    private static void tablesAreMade() {
        newObject();
        tell();
        take();
        residues();
        twice();
        doubled();
        product();
        four();
        bordered();
        completed();
        copy();
        drop();
    }

    private static void tablesAreChanged() {
        sign();
        exchange();
        turn();
        switched();
        norm();
    }

    private static void tablesAreSeen() {
        order();
        bits();
        trail();
        along();
        perpendicular();
        sum();
        best();
        tally();
        part();
        form();
        determinant();
    }

    private static void tablesAreCompared() {
        like();
        image();
        symmetries();
        joined();
        common();
    }

    private static void tablesAreUsed() {
        block();
        through();
        halves();
        nearest();
        signal();
        spectrum();
        field();
        fours();
        count();
    }

    private static void newObject() {
        promise = 1;
        SignTables x = new SignTables();
        due("NONE", SignTables.NONE, -1);
        due("tables", x.count(0), 0);
        due("places", x.count(1), 0);
        due("told", x.count(2), 0);
        for (int i = 0; i < 28; i++) {
            due("number " + i, x.signal(i, 7), 0);
        }
        for (int t = 0; t < 6; t++) {
            due("place " + t, x.order(t), 0);
        }
        SignTables y = new SignTables();
        due("another object's signal", y.signal(0, 1), 0);
    }

    private static void tell() {
        promise = 2;
        SignTables x = new SignTables();
        due("below 0", x.tell(-1), NONE);
        due("least", x.tell(LEAST), NONE);
        due("2 to the 28", x.tell(1 << 28), NONE);
        due("most", x.tell(MOST), NONE);
        for (int k = 1; k <= 28; k++) {
            due("row " + k, x.tell((1 << 28) - k), k);
        }
        due("row 29", x.tell(0), NONE);
        due("still 28", x.count(2), 28);
        due("taken", x.take(), 0);
        due("first row", x.bits(0, true, 0), (1 << 28) - 1);
        due("last row", x.bits(0, true, 27), (1 << 28) - 28);
    }

    private static void take() {
        promise = 3;
        SignTables x = new SignTables();
        due("nothing told", x.take(), NONE);
        x.tell(2);
        due("a row has more bits", x.take(), NONE);
        due("it stays", x.count(2), 1);
        x.tell(4);
        due("the last has more bits", x.take(), NONE);
        x.tell(7);
        due("three", x.take(), 0);
        rowsAre(x, 0, 2, 4, 7);
        due("nothing is told then", x.count(2), 0);
        SignTables y = full();
        y.tell(0);
        due("full", y.take(), NONE);
        due("full, it stays", y.count(2), 1);
        y.drop(3);
        due("the first empty place", y.take(), 3);
    }

    private static void residues() {
        promise = 4;
        SignTables x = new SignTables();
        due("3", x.residues(3), 0);
        rowsAre(x, 0, 0, 9, 3, 5);
        due("7", x.residues(7), 1);
        rowsAre(x, 1, 0, 0xd1, 0xa3, 0x47, 0x8d, 0x1b, 0x35, 0x69);
        due("27", x.residues(27), 2);
        for (int q : new int[] {7, 11, 19, 23, 27}) {
            x.drop(3);
            due("residues", x.residues(q), 3);
            due("order", x.order(3), q + 1);
            due("perpendicular", x.perpendicular(3, 0), 1);
            due("sum of a column 0", x.bits(3, false, 0), (1 << (q + 1)) - 2);
        }
        for (int q : new int[] {LEAST, -1, 0, 1, 2, 5, 9, 13, 15, 17, 25, 29, 31, MOST}) {
            due("no residues of " + q, x.residues(q), NONE);
        }
        due("nothing happened", x.count(1), 15);
        due("full", full().residues(3), NONE);
    }

    private static void twice() {
        promise = 5;
        SignTables x = new SignTables();
        int t = 0;
        for (int q : new int[] {5, 9, 13}) {
            due("twice", x.twice(q), t);
            due("order", x.order(t), 2 * q + 2);
            due("perpendicular", x.perpendicular(t, 0), 1);
            due("the first block", x.bits(t, true, 0), 2);
            due("below it", x.bits(t, true, 1), 0b11 | mostlyOdd(q));
            t++;
        }
        // 5: squares 1 and 4; row 1 of C is 1 0 1 -1 -1 1.
        due("row 2 of 5", x.bits(0, true, 2), 0b001111001000);
        due("row 3 of 5", x.bits(0, true, 3), 0b100101101110);
        for (int q : new int[] {LEAST, -3, 0, 1, 3, 7, 11, 15, 17, 21, 25, 29, MOST}) {
            due("not twice " + q, x.twice(q), NONE);
        }
        due("full", full().twice(5), NONE);
    }

    private static int mostlyOdd(int q) {
        int word = 0;
        for (int j = 1; j <= q; j++) {
            word |= 2 << (2 * j);
        }
        return word;
    }

    private static void doubled() {
        promise = 6;
        SignTables x = new SignTables();
        lay(x, 0, 1);
        due("doubled", x.doubled(0), 1);
        rowsAre(x, 1, 0, 5, 12, 9);
        due("empty", x.doubled(2), NONE);
        due("no place", x.doubled(6), NONE);
        due("below", x.doubled(-1), NONE);
        due("13", x.bordered(13, 0), 2);
        due("14 can be", x.doubled(2), 3);
        due("28", x.order(3), 28);
        due("above 28", x.doubled(3), NONE);
        due("15", x.bordered(14, 0), 4);
        due("15 cannot be", x.doubled(4), NONE);
        due("full", full().doubled(0), NONE);
    }

    private static void product() {
        promise = 7;
        SignTables x = new SignTables();
        lay(x, 0, 1);
        lay(x, 1, 3, 6);
        due("2 by 3", x.product(0, 1), 2);
        rowsAre(x, 2, 1 | 1 << 3, 3 | 3 << 3, 6 | 6 << 3, 6 | 1 << 3, 4 | 3 << 3, 1 | 6 << 3);
        due("3 by 2", x.product(1, 0), 3);
        rowsAre(x, 3, 0b000011, 0b010110, 0b001111, 0b011010, 0b111100, 0b101001);
        due("itself", x.product(0, 0), 4);
        rowsAre(x, 4, 0, 5, 3, 6 | 0 << 3);
        due("4 by 6 is 24", x.product(4, 2), 5);
        due("24", x.order(5), 24);
        due("full", x.product(0, 0), NONE);
        x.drop(4);
        due("6 by 6 is above", x.product(2, 3), NONE);
        due("empty first", x.product(4, 0), NONE);
        due("empty second", x.product(0, 4), NONE);
        due("no place", x.product(0, 6), NONE);
        due("no place", x.product(LEAST, 0), NONE);
        SignTables y = new SignTables();
        y.residues(3);
        y.bordered(6, 0);
        due("4 by 7 is 28", y.product(0, 1), 2);
        due("28", y.order(2), 28);
        due("4 by 8 is above", y.product(0, y.residues(7)), NONE);
    }

    private static void four() {
        promise = 8;
        SignTables x = new SignTables();
        due("of 1", x.four(1, 0, 0, 0, 0), 0);
        rowsAre(x, 0, 0, 5, 9, 3);
        due("of 2", x.four(2, 1, 0, 3, 2), 1);
        // A: -+ round, B ++, C --, D +-.
        rowsAre(x, 1, 0b10110001, 0b01110010, 0b11010111, 0b11101011, 0b11011000, 0b11100100, 0b01000001, 0b10000010);
        due("of 3", x.four(3, 0, 6, 6, 6), 2);
        due("it is perpendicular", x.perpendicular(2, 0), 1);
        due("of 7", x.four(7, 127, 127, 127, 127), 3);
        due("28", x.order(3), 28);
        due("m 0", x.four(0, 0, 0, 0, 0), NONE);
        due("m 8", x.four(8, 0, 0, 0, 0), NONE);
        due("m most", x.four(MOST, 0, 0, 0, 0), NONE);
        due("m least", x.four(LEAST, 0, 0, 0, 0), NONE);
        due("a too long", x.four(3, 8, 0, 0, 0), NONE);
        due("b too long", x.four(3, 0, 8, 0, 0), NONE);
        due("c below 0", x.four(3, 0, 0, -1, 0), NONE);
        due("d too long", x.four(3, 0, 0, 0, 8), NONE);
        due("full", full().four(1, 0, 0, 0, 0), NONE);
    }

    private static void bordered() {
        promise = 9;
        SignTables x = new SignTables();
        due("of 1", x.bordered(1, 1), 0);
        rowsAre(x, 0, 0, 2);
        due("of 3", x.bordered(3, 1), 1);
        rowsAre(x, 1, 0, 2, 4, 8);
        due("of 4", x.bordered(4, 6), 2);
        rowsAre(x, 2, 0, 12, 24, 18, 6);
        due("of 27", x.bordered(27, (1 << 27) - 1), 3);
        due("28", x.order(3), 28);
        due("its row 5", x.bits(3, true, 5), (1 << 28) - 2);
        due("m 0", x.bordered(0, 0), NONE);
        due("m 28", x.bordered(28, 0), NONE);
        due("m least", x.bordered(LEAST, 0), NONE);
        due("m most", x.bordered(MOST, 0), NONE);
        due("too long", x.bordered(4, 16), NONE);
        due("below 0", x.bordered(4, -1), NONE);
        due("full", full().bordered(1, 0), NONE);
    }

    private static void completed() {
        promise = 10;
        SignTables x = new SignTables();
        due("1", x.completed(1), 0);
        rowsAre(x, 0, 0);
        due("8", x.completed(8), 1);
        rowsAre(x, 1, 0, 15, 51, 60, 85, 90, 102, 105);
        due("12", x.completed(12), 2);
        due("perpendicular", x.perpendicular(2, 0), 1);
        due("row 1 of 12", x.bits(2, true, 1), 63);
        due("row 2 of 12", x.bits(2, true, 2), 455);
        for (int n : new int[] {LEAST, -1, 0, 3, 5, 6, 7, 9, 10, 11, 13, 16, 20, MOST}) {
            due("not of " + n, x.completed(n), NONE);
        }
        x.drop(1);
        x.tell(1);
        due("told ahead", x.completed(2), 1);
        rowsAre(x, 1, 1, 0);
        x.drop(1);
        due("none told after that", x.completed(2), 1);
        rowsAre(x, 1, 0, 1);
        completedOfWrongRows(x);
        SignTables y = full();
        y.tell(0);
        due("full", y.completed(1), NONE);
        due("it stays", y.count(2), 1);
    }

    private static void completedOfWrongRows(SignTables x) {
        x.tell(0);
        x.tell(5);
        due("told rows are more", x.completed(1), NONE);
        due("a row has more bits", x.completed(2), NONE);
        x.tell(6);
        x.tell(3);
        due("all are told", x.completed(4), 3);
        rowsAre(x, 3, 0, 5, 6, 3);
        x.tell(0);
        x.tell(1);
        due("not perpendicular", x.completed(4), NONE);
        due("they stay", x.count(2), 2);
        x.take();
        // These four have 12 in the tally, which no perpendicular table of order 12 has.
        x.tell(0);
        x.tell(0b000000111111);
        x.tell(0b000111000111);
        x.tell(0b000111111000);
        due("it cannot be", x.completed(12), NONE);
        due("they stay", x.count(2), 4);
        due("nothing was made", x.count(1), 31);
    }

    private static void copy() {
        promise = 11;
        SignTables x = new SignTables();
        x.residues(3);
        x.turn(0);
        x.sign(0, true, 1);
        x.exchange(0, false, 0, 2);
        due("copy", x.copy(0), 1);
        for (int i = 0; i < 4; i++) {
            due("row " + i, x.bits(1, true, i), x.bits(0, true, i));
            due("number", x.trail(1, false, i, 0), i);
            due("signed", x.trail(1, true, i, 1), 0);
            due("a row", x.trail(1, true, i, 2), 1);
        }
        x.sign(1, true, 0);
        due("the first one stays", x.bits(0, true, 0) == x.bits(1, true, 0), false);
        due("empty", x.copy(4), NONE);
        due("no place", x.copy(-1), NONE);
        due("no place", x.copy(6), NONE);
        due("full", full().copy(0), NONE);
    }

    private static void drop() {
        promise = 12;
        SignTables x = full();
        due("drop", x.drop(2), true);
        due("it is empty", x.drop(2), false);
        due("order", x.order(2), 0);
        due("places", x.count(1), 59);
        due("no place", x.drop(6), false);
        due("no place", x.drop(-1), false);
        x.drop(0);
        due("the first empty one", x.residues(3), 0);
        due("then the next", x.residues(3), 2);
    }

    private static void sign() {
        promise = 13;
        SignTables x = new SignTables();
        lay(x, 0, 3, 5);
        due("row", x.sign(0, true, 1), true);
        rowsAre(x, 0, 0, 4, 5);
        due("column", x.sign(0, false, 2), true);
        rowsAre(x, 0, 4, 0, 1);
        due("row's trail", x.trail(0, true, 1, 1), 1);
        due("column's trail", x.trail(0, false, 2, 1), 1);
        due("again", x.sign(0, false, 2), true);
        due("not signed", x.trail(0, false, 2, 1), 0);
        x.sign(0, true, 0);
        x.sign(0, true, 0);
        due("a row not signed", x.trail(0, true, 0, 1), 0);
        due("no row", x.sign(0, true, 3), false);
        due("no column", x.sign(0, false, -1), false);
        due("empty", x.sign(1, true, 0), false);
        due("no place", x.sign(6, true, 0), false);
        rowsAre(x, 0, 0, 4, 5);
    }

    private static void exchange() {
        promise = 14;
        SignTables x = new SignTables();
        lay(x, 1, 3, 6);
        due("rows", x.exchange(0, true, 2, 0), true);
        rowsAre(x, 0, 6, 3, 1);
        due("columns", x.exchange(0, false, 0, 1), true);
        rowsAre(x, 0, 5, 3, 2);
        due("columns", x.exchange(0, false, 1, 2), true);
        rowsAre(x, 0, 3, 5, 4);
        due("back", x.exchange(0, false, 2, 1), true);
        due("row's trail", x.trail(0, true, 0, 0), 2);
        due("column's trail", x.trail(0, false, 1, 0), 0);
        due("one row", x.exchange(0, true, 1, 1), false);
        due("no row", x.exchange(0, true, 1, 3), false);
        due("no column", x.exchange(0, false, -1, 1), false);
        due("empty", x.exchange(1, true, 0, 1), false);
        due("no place", x.exchange(-1, true, 0, 1), false);
        rowsAre(x, 0, 5, 3, 2);
    }

    private static void turn() {
        promise = 15;
        SignTables x = new SignTables();
        lay(x, 1, 1, 6);
        due("turn", x.turn(0), true);
        rowsAre(x, 0, 3, 4, 4);
        due("column 0", x.bits(0, false, 0), 1);
        due("empty", x.turn(1), false);
        due("no place", x.turn(6), false);
        due("no place", x.turn(LEAST), false);
        due("back", x.turn(0), true);
        rowsAre(x, 0, 1, 1, 6);
    }

    private static void switched() {
        promise = 16;
        SignTables x = new SignTables();
        x.residues(3);
        x.doubled(0);
        x.sign(1, false, 6);
        x.turn(1);
        x.turn(1);
        due("four of one half", x.switched(1, 3, 0, 2, 1, 6), true);
        // Column 6 of these rows was + - - +, signed: - + + -; column 2 is + - - +, against it.
        rowsAre(x, 1, 0 ^ 64 ^ 68, 153 ^ 64 ^ 68, 51 ^ 64 ^ 68, 85 ^ 64 ^ 68, 240 ^ 64, 105 ^ 64, 195 ^ 64, 165 ^ 64);
        due("the trail begins anew", x.trail(1, false, 6, 1), 0);
        due("perpendicular", x.perpendicular(1, 0), 1);
        for (int pair = 0; pair < 16; pair++) {
            int[] four = {4, 5, 6, 7};
            four[pair / 4] = four[pair % 4];
            boolean unlike = pair / 4 == pair % 4;
            if (!unlike) {
                due("two alike " + pair, x.switched(1, four[0], four[1], four[2], four[3], 0), false);
            }
        }
        for (int at = 0; at < 4; at++) {
            int[] four = {4, 5, 6, 7};
            four[at] = at % 2 == 0 ? 8 : -1;
            due("no row at " + at, x.switched(1, four[0], four[1], four[2], four[3], 0), false);
        }
        due("it stays as it is", x.bits(1, true, 4), 240 ^ 64);
        due("tally is 0", x.switched(1, 0, 1, 2, 4, 0), false);
        due("no column", x.switched(1, 0, 1, 2, 3, 8), false);
        due("no column", x.switched(1, 0, 1, 2, 3, -1), false);
        due("no row", x.switched(1, 0, 1, 2, 8, 0), false);
        due("no row", x.switched(1, -1, 1, 2, 3, 0), false);
        due("empty", x.switched(2, 0, 1, 2, 3, 0), false);
        due("no place", x.switched(MOST, 0, 1, 2, 3, 0), false);
        x.turn(0);
        due("against", x.switched(0, 0, 1, 2, 3, 1), true);
        due("as it was turned it is new", x.trail(0, true, 0, 2), 1);
        int ones = lay(x, 0, 0, 0, 0, 0);
        due("rows of one kind are unlike by number", x.switched(ones, 4, 3, 2, 1, 0), true);
        rowsAre(x, ones, 0, 31, 31, 31, 31);
        for (int pair = 0; pair < 16; pair++) {
            int[] four = {0, 1, 2, 3};
            four[pair / 4] = four[pair % 4];
            due("by number " + pair, x.switched(ones, four[0], four[1], four[2], four[3], 0), pair / 4 == pair % 4);
        }
    }

    private static void norm() {
        promise = 17;
        SignTables x = new SignTables();
        lay(x, 5, 4, 3);
        due("norm", x.norm(0), 3);
        // Columns 0 and 2 are signed: 0, 1, 6; then row 1.
        rowsAre(x, 0, 0, 6, 6);
        due("column 0", x.trail(0, false, 0, 1), 1);
        due("column 1", x.trail(0, false, 1, 1), 0);
        due("column 2", x.trail(0, false, 2, 1), 1);
        due("row 0", x.trail(0, true, 0, 1), 0);
        due("row 1", x.trail(0, true, 1, 1), 1);
        due("again", x.norm(0), 0);
        due("empty", x.norm(1), NONE);
        due("no place", x.norm(6), NONE);
        due("no place", x.norm(-1), NONE);
    }

    private static void order() {
        promise = 18;
        SignTables x = new SignTables();
        x.residues(27);
        due("28", x.order(0), 28);
        due("empty", x.order(5), 0);
        due("no place", x.order(6), NONE);
        due("no place", x.order(-1), NONE);
        due("no place", x.order(LEAST), NONE);
    }

    private static void bits() {
        promise = 19;
        SignTables x = new SignTables();
        lay(x, 3, 1, 4);
        due("row", x.bits(0, true, 1), 1);
        due("column 0", x.bits(0, false, 0), 3);
        due("column 1", x.bits(0, false, 1), 1);
        due("column 2", x.bits(0, false, 2), 4);
        due("no row", x.bits(0, true, 3), NONE);
        due("no column", x.bits(0, false, -1), NONE);
        due("empty", x.bits(1, true, 0), NONE);
        due("no place", x.bits(6, true, 0), NONE);
    }

    private static void trail() {
        promise = 20;
        SignTables x = new SignTables();
        x.residues(3);
        x.sign(0, true, 1);
        x.exchange(0, true, 1, 3);
        x.exchange(0, false, 0, 2);
        due("row 3 was 1", x.trail(0, true, 3, 0), 1);
        due("signed", x.trail(0, true, 3, 1), 1);
        due("row 1 was 3", x.trail(0, true, 1, 0), 3);
        due("not signed", x.trail(0, true, 1, 1), 0);
        due("it was a row", x.trail(0, true, 1, 2), 1);
        due("a column was none", x.trail(0, false, 1, 2), 0);
        x.turn(0);
        due("a column now", x.trail(0, false, 3, 0), 1);
        due("signed", x.trail(0, false, 3, 1), 1);
        due("it was a row", x.trail(0, false, 3, 2), 1);
        due("row 0 was column 2", x.trail(0, true, 0, 0), 2);
        due("it was no row", x.trail(0, true, 0, 2), 0);
        x.sign(0, false, 3);
        due("signed twice", x.trail(0, false, 3, 1), 0);
        due("no what", x.trail(0, true, 0, 3), NONE);
        due("no what", x.trail(0, true, 0, -1), NONE);
        due("no row", x.trail(0, true, 4, 0), NONE);
        due("no column", x.trail(0, false, -1, 0), NONE);
        due("empty", x.trail(1, true, 0, 0), NONE);
        due("no place", x.trail(6, true, 0, 0), NONE);
    }

    private static void along() {
        promise = 21;
        SignTables x = new SignTables();
        lay(x, 0, 3, 5);
        due("rows", x.along(0, true, 0, 1), -1);
        due("rows", x.along(0, true, 2, 1), -1);
        due("columns", x.along(0, false, 1, 2), -1);
        due("columns", x.along(0, false, 0, 1), 1);
        due("with itself", x.along(0, true, 2, 2), 3);
        due("no row", x.along(0, true, 0, 3), NO_SUM);
        due("no column", x.along(0, false, -1, 0), NO_SUM);
        due("empty", x.along(1, true, 0, 0), NO_SUM);
        due("no place", x.along(6, true, 0, 0), NO_SUM);
    }

    private static void perpendicular() {
        promise = 22;
        SignTables x = new SignTables();
        lay(x, 0, 3, 5, 9);
        due("it is", x.perpendicular(0, 0), 1);
        due("no pair", x.perpendicular(0, 1), -2);
        due("none", x.perpendicular(0, 2), 0);
        lay(x, 0, 3, 5, 4);
        due("it is not", x.perpendicular(1, 0), 0);
        due("0 and 3", x.perpendicular(1, 1), 3);
        due("all with 3", x.perpendicular(1, 2), 3);
        lay(x, 0, 3, 5, 5);
        due("2 and 3", x.perpendicular(2, 1), 59);
        due("one", x.perpendicular(2, 2), 1);
        lay(x, 1);
        due("of 1", x.perpendicular(3, 0), 1);
        due("no what", x.perpendicular(0, 3), NONE);
        due("no what", x.perpendicular(0, -1), NONE);
        due("empty", x.perpendicular(4, 0), NONE);
        due("no place", x.perpendicular(6, 0), NONE);
    }

    private static void sum() {
        promise = 23;
        SignTables x = new SignTables();
        lay(x, 0, 3, 7);
        due("sum", x.sum(0), -1);
        x.bordered(27, (1 << 27) - 1);
        due("of 28", x.sum(1), 55 - 27 * 27);
        due("empty", x.sum(2), NO_SUM);
        due("no place", x.sum(-1), NO_SUM);
    }

    private static void best() {
        promise = 24;
        SignTables x = new SignTables();
        x.residues(3);
        due("of 4", x.best(0, 0), 8);
        due("columns", x.best(0, 1), 1);
        x.product(0, 0);
        due("of 16", x.best(1, 0), 64);
        x.sign(1, true, 3);
        due("signed it is as before", x.best(1, 0), 64);
        x.twice(9);
        due("above 16", x.best(2, 0), -2);
        lay(x, 0, 2);
        due("of 2", x.best(3, 0), 2);
        due("no column", x.best(3, 1), 0);
        x.sign(3, false, 0);
        due("by what stands now", x.best(3, 1), 0);
        lay(x, 1, 1, 1);
        due("all can be +", x.best(4, 0), 9);
        due("by column 0", x.best(4, 1), 1);
        x.exchange(4, false, 0, 1);
        due("by column 1", x.best(4, 1), 2);
        x.turn(4);
        due("by none", x.best(4, 1), 0);
        x.drop(4);
        lay(x, 4, 4, 4);
        due("by 0 and 1, not by 2", x.best(4, 1), 3);
        x.drop(4);
        lay(x, 0x0f0, 0x1f1, 0x0f0, 0x10f, 0x0f0, 0x0f0, 0x0f0, 0x10f, 0x00f);
        due("of 9", x.best(4, 0), 75);
        due("columns of 9", x.best(4, 1), 0xf0);
        due("no what", x.best(0, 2), NONE);
        due("no what", x.best(0, -1), NONE);
        due("empty", x.best(5, 0), NONE);
        due("no place", x.best(6, 0), NONE);
    }

    private static void tally() {
        promise = 25;
        SignTables x = new SignTables();
        x.residues(7);
        due("8", x.tally(0, true, 8), 14);
        due("0", x.tally(0, true, 0), 56);
        due("4", x.tally(0, false, 4), 0);
        due("far above", x.tally(0, true, MOST), 0);
        due("below 0", x.tally(0, true, -8), NONE);
        lay(x, 0, 0, 0, 1, 1);
        due("5", x.tally(1, true, 5), 3);
        due("3", x.tally(1, true, 3), 2);
        due("columns: 3", x.tally(1, false, 1), 4);
        due("columns: 5", x.tally(1, false, 5), 1);
        lay(x, 0, 0, 0);
        due("too few", x.tally(2, true, 3), 0);
        x.residues(27);
        due("all of 28", x.tally(3, true, 4) + x.tally(3, true, 12) + x.tally(3, true, 20) + x.tally(3, true, 28), 20475);
        due("empty", x.tally(4, true, 0), NONE);
        due("no place", x.tally(6, true, 0), NONE);
    }

    private static void part() {
        promise = 26;
        SignTables x = new SignTables();
        lay(x, 0, 0, 0, 1, 1);
        due("with row 0: 5", x.part(0, true, 0, 5), 2);
        due("with row 0: 3", x.part(0, true, 0, 3), 2);
        due("with row 3: 5", x.part(0, true, 3, 5), 3);
        due("with row 3: 3", x.part(0, true, 3, 3), 1);
        due("with column 0: 1", x.part(0, false, 0, 1), 4);
        due("with column 4: 1", x.part(0, false, 4, 1), 3);
        due("with column 4: 5", x.part(0, false, 4, 5), 1);
        x.residues(7);
        due("with row 0: 0", x.part(1, true, 0, 0), 28);
        due("with row 0: 8", x.part(1, true, 0, 8), 7);
        x.drop(1);
        due("below 0", x.part(0, true, 0, -1), NONE);
        due("no row", x.part(0, true, 5, 5), NONE);
        due("no column", x.part(0, false, -1, 5), NONE);
        due("empty", x.part(1, true, 0, 0), NONE);
        due("no place", x.part(6, true, 0, 0), NONE);
    }

    private static void form() {
        promise = 27;
        SignTables x = new SignTables();
        lay(x, 3, 1, 0);
        due("row 0", x.form(0, 0), 0);
        due("row 1", x.form(0, 1), 1);
        due("row 2", x.form(0, 2), 2);
        lay(x, 62, 61, 59, 55, 47, 31);
        int[] sixes = {0, 3, 5, 9, 17, 30};
        for (int i = 0; i < 6; i++) {
            due("of 6, row " + i, x.form(1, i), sixes[i]);
        }
        lay(x, 7, 7, 7, 8);
        due("nothing to tell", x.form(2, 3), 0);
        x.completed(8);
        due("above 6", x.form(3, 0), -2);
        due("no row", x.form(0, 3), NONE);
        due("no row", x.form(0, -1), NONE);
        due("empty", x.form(4, 0), NONE);
        due("no place", x.form(6, 0), NONE);
    }

    private static void determinant() {
        promise = 28;
        SignTables x = new SignTables();
        lay(x, 1);
        due("of 1", x.determinant(0), -1);
        lay(x, 0, 2);
        due("of 2", x.determinant(1), -2);
        x.exchange(1, true, 0, 1);
        due("rows exchanged", x.determinant(1), 2);
        lay(x, 0, 1, 3);
        due("of 3", x.determinant(2), 4);
        x.residues(11);
        due("of 12, its size", Math.abs(x.determinant(3)), 2985984);
        long before = x.determinant(3);
        x.sign(3, false, 4);
        due("a column signed", x.determinant(3), -before);
        lay(x, 0, 5, 5);
        due("0", x.determinant(4), 0);
        x.drop(4);
        // Rows 0 and 1 are alike in two columns, so a row from below has to be the second pivot.
        lay(x, 0, 4, 1);
        due("a row from below", x.determinant(4), 4);
        x.drop(4);
        lay(x, 0, 12, 10, 1);
        due("of 4", x.determinant(4), 8);
        x.drop(4);
        x.bordered(12, 0);
        due("of 13", x.determinant(4), NO_AMOUNT);
        due("empty", x.determinant(5), NO_AMOUNT);
        due("no place", x.determinant(6), NO_AMOUNT);
    }

    private static void like() {
        promise = 29;
        SignTables x = new SignTables();
        x.residues(11);
        x.twice(5);
        due("12", x.like(0, 1), 1);
        lay(x, 0, 0, 0);
        lay(x, 2, 5, 2);
        due("all rows and columns can be +", x.like(2, 3), 1);
        lay(x, 0, 0, 1);
        due("they are not alike", x.like(2, 4), 0);
        due("unlike orders", x.like(0, 2), -2);
        due("itself", x.like(4, 4), 1);
        due("empty", x.like(0, 5), NONE);
        due("empty", x.like(5, 0), NONE);
        due("no place", x.like(0, 6), NONE);
        x.bordered(11, 0);
        due("one is not perpendicular", x.like(0, 5), -2);
        due("nor the first", x.like(5, 0), -2);
        x.drop(5);
        x.bordered(6, 0);
        due("7, not perpendicular", x.like(5, 5), -2);
        x.drop(5);
        x.product(2, 2);
        x.drop(5);
        x.residues(19);
        due("above 12", x.like(5, 5), -2);
    }

    private static void image() {
        promise = 30;
        SignTables x = new SignTables();
        lay(x, 3, 1, 0);
        lay(x, 4, 2, 6);
        imagesShowLikeness(x, 0, 1);
        lay(x, 0, 0, 1);
        lay(x, 7, 6, 0);
        due("row 0, at + first", x.image(2, 3, true, 0), 0);
        due("row 1", x.image(2, 3, true, 1), 5);
        due("row 2", x.image(2, 3, true, 2), 2);
        due("column 0", x.image(2, 3, false, 0), 1);
        due("column 1", x.image(2, 3, false, 1), 3);
        due("column 2", x.image(2, 3, false, 2), 5);
        due("no row", x.image(2, 3, true, 3), NONE);
        due("no column", x.image(2, 3, false, -1), NONE);
        lay(x, 0, 0, 0);
        due("there is none", x.image(2, 4, true, 0), -2);
        due("empty", x.image(2, 5, true, 0), NONE);
        due("empty", x.image(5, 2, true, 0), NONE);
        due("no place", x.image(6, 2, true, 0), NONE);
        lay(x, 0, 1);
        due("unlike orders", x.image(2, 5, true, 0), -2);
        SignTables y = new SignTables();
        y.residues(11);
        y.twice(5);
        y.four(3, 6, 0, 6, 6);
        imagesShowLikeness(y, 0, 1);
        imagesShowLikeness(y, 1, 2);
        y.residues(7);
        y.completed(8);
        imagesShowLikeness(y, 3, 4);
        y.residues(19);
        due("above 12", y.image(5, 5, false, 0), -2);
    }

    private static void imagesShowLikeness(SignTables x, int t, int u) {
        due("like", x.like(t, u), 1);
        int rows = 0;
        int columns = 0;
        for (int i = 0; i < x.order(t); i++) {
            int row = x.image(t, u, true, i);
            rows |= 1 << row / 2;
            columns |= 1 << x.image(t, u, false, i) / 2;
            for (int j = 0; j < x.order(t); j++) {
                int column = x.image(t, u, false, j);
                int there = x.bits(u, true, row / 2) >> column / 2 & 1;
                due("sign at " + i + ", " + j, there, (x.bits(t, true, i) >> j & 1) ^ (row & 1) ^ (column & 1));
            }
        }
        due("each row is an image", rows, (1 << x.order(t)) - 1);
        due("each column is an image", columns, (1 << x.order(t)) - 1);
    }

    private static void symmetries() {
        promise = 31;
        SignTables x = new SignTables();
        x.completed(1);
        x.completed(2);
        x.completed(4);
        x.completed(8);
        x.completed(12);
        due("of 1", x.symmetries(0), 2);
        due("of 2", x.symmetries(1), 8);
        due("of 4", x.symmetries(2), 192);
        due("of 8", x.symmetries(3), 21504);
        due("of 12", x.symmetries(4), 190080);
        lay(x, 0, 0, 0, 0, 0, 0);
        due("6 without -", x.symmetries(5), 1036800);
        x.drop(5);
        lay(x, 1, 2, 4, 8, 16, 32);
        due("- along the middle", x.symmetries(5), 1440);
        x.drop(5);
        due("empty", x.symmetries(5), NONE);
        due("no place", x.symmetries(6), NONE);
        x.bordered(6, 0);
        due("7", x.symmetries(5), -2);
        x.drop(5);
        x.residues(23);
        due("above 12", x.symmetries(5), -2);
    }

    private static void joined() {
        promise = 32;
        SignTables x = new SignTables();
        lay(x, 0, 2);
        // Knots: rows 0 1 | 2 3, columns 4 5 | 6 7.
        int[][] lines = {{0, 4}, {1, 5}, {0, 6}, {1, 7}, {2, 4}, {3, 5}, {2, 7}, {3, 6}};
        int[][] due = new int[8][8];
        for (int[] line : lines) {
            due[line[0]][line[1]] = 1;
            due[line[1]][line[0]] = 1;
        }
        for (int a = 0; a < 8; a++) {
            for (int b = 0; b < 8; b++) {
                due("joined " + a + ", " + b, x.joined(0, a, b), due[a][b]);
            }
        }
        due("no knot", x.joined(0, 8, 0), NONE);
        due("no knot", x.joined(0, 0, -1), NONE);
        due("empty", x.joined(1, 0, 0), NONE);
        due("no place", x.joined(6, 0, 0), NONE);
    }

    private static void common() {
        promise = 33;
        SignTables x = new SignTables();
        lay(x, 0, 1, 3);
        due("rows 0 and 1", x.common(0, 0, 2), 2);
        due("row 0, the other side of 1", x.common(0, 0, 3), 1);
        due("other sides", x.common(0, 5, 3), 2);
        due("columns 0 and 2", x.common(0, 6, 10), 1);
        due("a column's two sides", x.common(0, 6, 7), 0);
        due("itself", x.common(0, 11, 11), 3);
        due("row and column", x.common(0, 0, 6), 0);
        due("column and row", x.common(0, 7, 1), 0);
        due("no knot", x.common(0, 12, 0), NONE);
        due("no knot", x.common(0, 0, LEAST), NONE);
        due("empty", x.common(1, 0, 0), NONE);
        due("no place", x.common(-1, 0, 0), NONE);
    }

    private static void block() {
        promise = 34;
        SignTables x = new SignTables();
        x.residues(3);
        due("by 0, 0: 1", x.block(0, 0, 0, 1), 8);
        due("by 0, 0: 2", x.block(0, 0, 0, 2), 2);
        due("by 2, 1: 0", x.block(0, 2, 1, 0), 1);
        due("by 2, 1: 3", x.block(0, 2, 1, 3), 4);
        due("i is r", x.block(0, 2, 1, 2), -2);
        due("no r", x.block(0, 4, 1, 4), NONE);
        due("no c", x.block(0, 0, 4, 1), NONE);
        due("no c", x.block(0, 0, -1, 0), NONE);
        due("no i", x.block(0, 0, 0, 4), NONE);
        lay(x, 0, 1, 2);
        due("order 3", x.block(1, 0, 0, 1), NONE);
        due("order 3, i is r", x.block(1, 0, 0, 0), NONE);
        due("empty", x.block(2, 0, 0, 1), NONE);
        due("no place", x.block(6, 0, 0, 1), NONE);
    }

    private static void through() {
        promise = 35;
        SignTables x = new SignTables();
        x.residues(11);
        for (int r = 0; r < 12; r++) {
            for (int c = 0; c < 12; c++) {
                int one = 1 << (c + 1) % 12;
                int two = one | 1 << (c + 5) % 12;
                due("all blocks", x.through(0, r, c, 0), 11);
                due("one point", x.through(0, r, c, one), 5);
                due("two points", x.through(0, r, c, two), 2);
                due("c is in it", x.through(0, r, c, one | 1 << c), NONE);
            }
        }
        due("more bits", x.through(0, 0, 0, 1 << 12), NONE);
        due("below 0", x.through(0, 0, 0, -2), NONE);
        due("no r", x.through(0, 12, 0, 2), NONE);
        due("no c", x.through(0, 0, 12, 2), NONE);
        due("no c", x.through(0, 0, -1, 2), NONE);
        lay(x, 0, 1, 2);
        due("order 3", x.through(1, 0, 0, 2), NONE);
        due("empty", x.through(2, 0, 0, 0), NONE);
        due("no place", x.through(6, 0, 0, 0), NONE);
    }

    private static void halves() {
        promise = 36;
        SignTables x = new SignTables();
        x.residues(11);
        for (int r = 0; r < 12; r++) {
            due("all", x.halves(0, r, 0), 22);
            due("one column", x.halves(0, r, 1 << r), 11);
            due("two", x.halves(0, r, 0x30), 5);
            due("three", x.halves(0, r, 0x811), 2);
        }
        due("more bits", x.halves(0, 0, 1 << 12), NONE);
        due("below 0", x.halves(0, 0, -1), NONE);
        due("no r", x.halves(0, 12, 0), NONE);
        due("no r", x.halves(0, -1, 0), NONE);
        lay(x, 0);
        due("no other row", x.halves(1, 0, 1), 0);
        due("empty", x.halves(2, 0, 0), NONE);
        due("no place", x.halves(6, 0, 0), NONE);
    }

    private static void nearest() {
        promise = 37;
        SignTables x = new SignTables();
        x.residues(3);
        // CODE: 0, 15, 9, 6, 3, 12, 5, 10.
        due("row of 14", x.nearest(0, 14, 0), 0);
        due("turned", x.nearest(0, 14, 1), 1);
        due("unlike in", x.nearest(0, 14, 2), 1);
        due("as near", x.nearest(0, 14, 3), 4);
        due("row of 10", x.nearest(0, 10, 0), 3);
        due("turned", x.nearest(0, 10, 1), 1);
        due("unlike in none", x.nearest(0, 10, 2), 0);
        due("alone", x.nearest(0, 10, 3), 1);
        due("row 0 itself", x.nearest(0, 0, 0), 0);
        due("not turned", x.nearest(0, 0, 1), 0);
        due("alone", x.nearest(0, 0, 3), 1);
        lay(x, 0, 0);
        due("the first of both", x.nearest(1, 3, 0), 0);
        due("turned", x.nearest(1, 3, 1), 1);
        due("each row is a word", x.nearest(1, 3, 3), 2);
        due("more bits", x.nearest(0, 16, 0), NONE);
        due("below 0", x.nearest(0, -1, 0), NONE);
        due("no what", x.nearest(0, 0, 4), NONE);
        due("no what", x.nearest(0, 0, -1), NONE);
        due("empty", x.nearest(2, 0, 0), NONE);
        due("no place", x.nearest(6, 0, 0), NONE);
    }

    private static void signal() {
        promise = 38;
        SignTables x = new SignTables();
        due("told", x.signal(27, -999), 0);
        due("again", x.signal(27, 999), -999);
        due("another", x.signal(0, 1), 0);
        due("too great", x.signal(27, 1000), NO_SUM);
        due("too small", x.signal(27, -1000), NO_SUM);
        due("no number", x.signal(28, 0), NO_SUM);
        due("no number", x.signal(-1, 0), NO_SUM);
        due("it stayed", x.signal(27, 0), 999);
    }

    private static void spectrum() {
        promise = 39;
        SignTables x = new SignTables();
        lay(x, 0, 1, 6);
        x.signal(0, 5);
        x.signal(1, -7);
        x.signal(2, 100);
        x.signal(3, 999);
        due("row 0", x.spectrum(0, 0, false), 98);
        due("row 1", x.spectrum(0, 1, false), 88);
        due("row 2", x.spectrum(0, 2, false), -88);
        due("column 0", x.spectrum(0, 0, true), 98 - 88 - 88);
        due("column 1", x.spectrum(0, 1, true), 98 + 88 + 88);
        x.bordered(27, 0);
        for (int i = 0; i < 28; i++) {
            x.signal(i, 999);
        }
        due("the greatest", x.spectrum(1, 27, true), 28 * 28 * 999);
        due("no row", x.spectrum(0, 3, false), NO_AMOUNT);
        due("no column", x.spectrum(0, -1, true), NO_AMOUNT);
        due("empty", x.spectrum(2, 0, false), NO_AMOUNT);
        due("no place", x.spectrum(6, 0, true), NO_AMOUNT);
    }

    private static void field() {
        promise = 40;
        SignTables x = new SignTables();
        for (int q = -3; q < 40; q++) {
            boolean is = NaiveTables.isField(q);
            due("zero of " + q, x.field(q, 0, 0, 0), is ? 0 : NONE);
            for (int a = 0; a < q && is; a++) {
                due("square", x.field(q, a, 0, 3), NaiveTables.chi(q, a) == 1 ? 1 : 0);
                for (int b = 0; b < q; b++) {
                    due("sum", x.field(q, a, b, 0), NaiveTables.plus(q, a, b));
                    due("product", x.field(q, a, b, 1), NaiveTables.times(q, a, b));
                    due("first less second", x.field(q, a, b, 2), NaiveTables.minus(q, a, b));
                }
            }
        }
        due("x x of 9", x.field(9, 3, 3, 1), 2);
        due("x x of 25", x.field(25, 5, 5, 1), 2);
        due("x xx of 27", x.field(27, 3, 9, 1), 4);
        due("xx xx of 27", x.field(27, 9, 9, 1), 12);
        due("0 is no square", x.field(9, 0, 0, 3), 0);
        due("no first", x.field(9, 9, 0, 1), NONE);
        due("no first", x.field(9, -1, 0, 3), NONE);
        due("no second", x.field(9, 0, 9, 1), NONE);
        due("no what", x.field(9, 0, 0, 4), NONE);
        due("no what", x.field(9, 0, 0, -1), NONE);
        due("no field", x.field(LEAST, 0, 0, 0), NONE);
        due("no field", x.field(MOST, 0, 0, 0), NONE);
    }

    private static void fours() {
        promise = 41;
        SignTables x = new SignTables();
        for (int m : new int[] {1, 3, 5, 7}) {
            java.util.List<int[]> all = NaiveTables.allFours(m);
            due("how many of " + m, x.fours(m, -1, 0), all.size());
            for (int i = 0; i < all.size(); i++) {
                for (int what = 0; what < 4; what++) {
                    due("row", x.fours(m, i, what), all.get(i)[what]);
                }
            }
            due("no such four", x.fours(m, all.size(), 0), NONE);
            due("no such four", x.fours(m, MOST, 0), NONE);
        }
        due("of 5", x.fours(5, -1, 0), 12);
        due("NONE and B", x.fours(5, -1, 1), NONE);
        due("no four", x.fours(5, -2, 0), NONE);
        due("no row", x.fours(5, 0, 4), NONE);
        due("no row", x.fours(5, 0, -1), NONE);
        for (int m : new int[] {LEAST, -1, 0, 2, 4, 6, 8, 9, MOST}) {
            due("not of " + m, x.fours(m, -1, 0), NONE);
        }
    }

    private static void count() {
        promise = 42;
        SignTables x = new SignTables();
        x.residues(3);
        x.bordered(3, 0);
        x.completed(8);
        x.tell(5);
        x.drop(0);
        x.tell(6);
        due("tables", x.count(0), 2);
        due("places", x.count(1), 6);
        due("told", x.count(2), 2);
        due("perpendicular", x.count(3), 4);
        due("no such order", x.completed(1), NONE);
        due("three rows", lay(x, 5), 0);
        due("of 1", lay(x, 1), 3);
        due("perpendicular, that of 1 too", x.count(3), 12);
        due("others", x.count(4), NONE);
        due("others", x.count(-1), NONE);
        due("others", x.count(LEAST), NONE);
    }
}
