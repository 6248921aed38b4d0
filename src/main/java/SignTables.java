import java.util.Arrays;

/** Square tables of signs on a shelf of six places; ../shared/DOC.md tells each call as a promise. */
public final class SignTables {
    public static final int NONE = -1;

    private static final int PLACES = 6;
    private static final int MOST_ORDER = 28;
    private static final int MOST_NUMBER = 999;
    private static final int MOST_SEARCHED = 12;
    private static final int MOST_FREE = 6;
    private static final int MOST_BEST = 16;
    private static final int LEAST_DESIGN = 4;
    private static final int NOT_SO = -2;
    private static final int NO_SUM = -1000;
    private static final int NO_AMOUNT = -1000000000;

    private final Table[] shelf;
    private final int[] told;
    private int toldCount;
    private final int[] numbers;
    // What calls need to work in is made once here, as a run's room is counted.
    private final int[] lines;
    private final Completion completion;
    private final Match match;
    private final LeastForm leastForm;
    private final Summit summit;
    private final Elimination elimination;
    private final Quartets quartets;

    public SignTables() {
        shelf = new Table[PLACES];
        for (int t = 0; t < PLACES; t++) {
            shelf[t] = new Table();
        }
        told = new int[MOST_ORDER];
        numbers = new int[MOST_ORDER];
        lines = new int[MOST_ORDER];
        completion = new Completion();
        match = new Match();
        leastForm = new LeastForm();
        summit = new Summit();
        elimination = new Elimination();
        quartets = new Quartets();
    }

    // ---- tables are made

    public int tell(int bits) {
        if (toldCount >= MOST_ORDER || bits < 0 || bits >= 1 << MOST_ORDER) {
            return NONE;
        }
        told[toldCount] = bits;
        toldCount++;
        return toldCount;
    }

    public int take() {
        int place = emptyPlace();
        if (place == NONE || toldCount == 0 || !toldFits(toldCount)) {
            return NONE;
        }
        shelf[place].layRows(told, toldCount);
        toldCount = 0;
        return place;
    }

    public int residues(int q) {
        int place = emptyPlace();
        if (place == NONE || Galois.prime(q) == 0 || q % 4 != 3) {
            return NONE;
        }
        Table made = shelf[place];
        made.begin(q + 1);
        int squares = Galois.squares(q);
        for (int i = 1; i <= q; i++) {
            made.setMinus(i, 0);
            for (int j = 1; j <= q; j++) {
                if (j != i && !inSet(squares, Galois.difference(q, j - 1, i - 1))) {
                    made.setMinus(i, j);
                }
            }
        }
        return place;
    }

    public int twice(int q) {
        int place = emptyPlace();
        if (place == NONE || Galois.prime(q) == 0 || q % 4 != 1 || 2 * q + 2 > MOST_ORDER) {
            return NONE;
        }
        Table made = shelf[place];
        made.begin(2 * q + 2);
        int squares = Galois.squares(q);
        for (int i = 0; i <= q; i++) {
            for (int j = 0; j <= q; j++) {
                laySmallBlock(made, i, j, conference(q, squares, i, j));
            }
        }
        return place;
    }

    public int doubled(int t) {
        Table from = tableAt(t);
        int place = emptyPlace();
        if (from == null || place == NONE || 2 * from.size > MOST_ORDER) {
            return NONE;
        }
        int n = from.size;
        Table made = shelf[place];
        made.begin(2 * n);
        for (int i = 0; i < n; i++) {
            int word = from.rows[i];
            made.rows[i] = word | word << n;
            made.rows[n + i] = word | (word ^ from.mask()) << n;
        }
        return place;
    }

    public int product(int t, int u) {
        Table first = tableAt(t);
        Table second = tableAt(u);
        int place = emptyPlace();
        if (first == null || second == null || place == NONE || first.size * second.size > MOST_ORDER) {
            return NONE;
        }
        int m = second.size;
        Table made = shelf[place];
        made.begin(first.size * m);
        for (int i = 0; i < first.size; i++) {
            for (int k = 0; k < m; k++) {
                made.rows[i * m + k] = productRow(first, i, second, k);
            }
        }
        return place;
    }

    public int four(int m, int a, int b, int c, int d) {
        int place = emptyPlace();
        if (place == NONE || m < 1 || m > 7) {
            return NONE;
        }
        if (!isWord(a, m) || !isWord(b, m) || !isWord(c, m) || !isWord(d, m)) {
            return NONE;
        }
        int all = (1 << m) - 1;
        Table made = shelf[place];
        made.begin(4 * m);
        for (int i = 0; i < m; i++) {
            int ra = shiftedRound(a, m, i);
            int rb = shiftedRound(b, m, i);
            int rc = shiftedRound(c, m, i);
            int rd = shiftedRound(d, m, i);
            made.rows[i] = fourWords(m, ra, rb, rc, rd);
            made.rows[m + i] = fourWords(m, rb ^ all, ra, rd ^ all, rc);
            made.rows[2 * m + i] = fourWords(m, rc ^ all, rd, ra, rb ^ all);
            made.rows[3 * m + i] = fourWords(m, rd ^ all, rc ^ all, rb, ra);
        }
        return place;
    }

    public int bordered(int m, int a) {
        int place = emptyPlace();
        if (place == NONE || m < 1 || m >= MOST_ORDER || !isWord(a, m)) {
            return NONE;
        }
        Table made = shelf[place];
        made.begin(m + 1);
        for (int i = 0; i < m; i++) {
            made.rows[i + 1] = shiftedRound(a, m, i) << 1;
        }
        return place;
    }

    public int completed(int n) {
        int place = emptyPlace();
        if (place == NONE || n != 1 && n != 2 && n != 4 && n != 8 && n != 12) {
            return NONE;
        }
        if (toldCount > n || !toldFits(n) || !completion.find(told, toldCount, n)) {
            return NONE;
        }
        shelf[place].layRows(completion.rows, n);
        toldCount = 0;
        return place;
    }

    public int copy(int t) {
        Table from = tableAt(t);
        int place = emptyPlace();
        if (from == null || place == NONE) {
            return NONE;
        }
        shelf[place].layRows(from.rows, from.size);
        return place;
    }

    public boolean drop(int t) {
        Table table = tableAt(t);
        if (table == null) {
            return false;
        }
        table.size = 0;
        return true;
    }

    // ---- changes

    public boolean sign(int t, boolean row, int i) {
        Table table = tableAt(t);
        if (table == null || !table.has(i)) {
            return false;
        }
        table.signLine(row, i);
        return true;
    }

    public boolean exchange(int t, boolean row, int i, int k) {
        Table table = tableAt(t);
        if (table == null || !table.has(i) || !table.has(k) || i == k) {
            return false;
        }
        table.exchangeLines(row, i, k);
        return true;
    }

    public boolean turn(int t) {
        Table table = tableAt(t);
        if (table == null) {
            return false;
        }
        table.transpose();
        return true;
    }

    public boolean switched(int t, int a, int b, int c, int d, int j) {
        Table table = tableAt(t);
        if (table == null || !table.has(j) || !table.has(a) || !table.has(b) || !table.has(c) || !table.has(d)) {
            return false;
        }
        if (a == b || a == c || a == d || b == c || b == d || c == d) {
            return false;
        }
        return table.switchRows(a, b, c, d, j);
    }

    public int norm(int t) {
        Table table = tableAt(t);
        if (table == null) {
            return NONE;
        }
        int signed = 0;
        for (int j = 0; j < table.size; j++) {
            if (table.isMinus(0, j)) {
                table.signLine(false, j);
                signed++;
            }
        }
        for (int i = 0; i < table.size; i++) {
            if (table.isMinus(i, 0)) {
                table.signLine(true, i);
                signed++;
            }
        }
        return signed;
    }

    // ---- what there is

    public int order(int t) {
        if (t < 0 || t >= PLACES) {
            return NONE;
        }
        return shelf[t].size;
    }

    public int bits(int t, boolean row, int i) {
        Table table = tableAt(t);
        if (table == null || !table.has(i)) {
            return NONE;
        }
        return table.line(row, i);
    }

    public int trail(int t, boolean row, int i, int what) {
        Table table = tableAt(t);
        if (table == null || !table.has(i)) {
            return NONE;
        }
        int mark = row ? table.rowTrail[i] : table.columnTrail[i];
        switch (what) {
            case 0:
                return mark >> 1;
            case 1:
                return mark & 1;
            case 2:
                return row != table.turned ? 1 : 0;
            default:
                return NONE;
        }
    }

    public int along(int t, boolean row, int i, int k) {
        Table table = tableAt(t);
        if (table == null || !table.has(i) || !table.has(k)) {
            return NO_SUM;
        }
        return signSum(table.line(row, i) ^ table.line(row, k), table.size);
    }

    public int perpendicular(int t, int what) {
        Table table = tableAt(t);
        if (table == null) {
            return NONE;
        }
        switch (what) {
            case 0:
                return table.firstSlantPair() == NOT_SO ? 1 : 0;
            case 1:
                return table.firstSlantPair();
            case 2:
                return table.countSlantPairs();
            default:
                return NONE;
        }
    }

    public int sum(int t) {
        Table table = tableAt(t);
        if (table == null) {
            return NO_SUM;
        }
        int total = 0;
        for (int i = 0; i < table.size; i++) {
            total += signSum(table.rows[i], table.size);
        }
        return total;
    }

    public int best(int t, int what) {
        Table table = tableAt(t);
        if (table == null || what < 0 || what > 1) {
            return NONE;
        }
        if (table.size > MOST_BEST) {
            return NOT_SO;
        }
        if (!table.bestKnown) {
            summit.climb(table);
        }
        return what == 0 ? table.bestSum : table.bestColumns;
    }

    public int tally(int t, boolean row, int v) {
        Table table = tableAt(t);
        if (table == null || v < 0) {
            return NONE;
        }
        table.copyLines(row, lines);
        int n = table.size;
        int found = 0;
        for (int a = 0; a < n; a++) {
            found += countTriples(n, a + 1, NONE, lines[a], v);
        }
        return found;
    }

    public int part(int t, boolean row, int i, int v) {
        Table table = tableAt(t);
        if (table == null || !table.has(i) || v < 0) {
            return NONE;
        }
        table.copyLines(row, lines);
        return countTriples(table.size, 0, i, lines[i], v);
    }

    public int form(int t, int i) {
        Table table = tableAt(t);
        if (table == null || !table.has(i)) {
            return NONE;
        }
        if (table.size > MOST_FREE) {
            return NOT_SO;
        }
        leastForm.find(table);
        return leastForm.least[i];
    }

    public long determinant(int t) {
        Table table = tableAt(t);
        if (table == null || table.size > MOST_SEARCHED) {
            return NO_AMOUNT;
        }
        return elimination.value(table);
    }

    // ---- witnesses

    public int like(int t, int u) {
        Table from = tableAt(t);
        Table to = tableAt(u);
        if (from == null || to == null) {
            return NONE;
        }
        if (!canMatch(from, to)) {
            return NOT_SO;
        }
        return match.findFirst(from, to) ? 1 : 0;
    }

    public int image(int t, int u, boolean row, int i) {
        Table from = tableAt(t);
        Table to = tableAt(u);
        if (from == null || to == null || !from.has(i)) {
            return NONE;
        }
        if (!canMatch(from, to) || !match.findFirst(from, to)) {
            return NOT_SO;
        }
        return row ? match.images[i] : match.columnImage(i);
    }

    public long symmetries(int t) {
        Table table = tableAt(t);
        if (table == null) {
            return NONE;
        }
        if (!canMatch(table, table)) {
            return NOT_SO;
        }
        return match.countToItself(table);
    }

    public int joined(int t, int a, int b) {
        Table table = tableAt(t);
        if (table == null || !isKnot(table, a) || !isKnot(table, b)) {
            return NONE;
        }
        int n = table.size;
        int rowKnot = Math.min(a, b);
        int columnKnot = Math.max(a, b) - 2 * n;
        if (rowKnot >= 2 * n || columnKnot < 0) {
            return 0;
        }
        boolean otherSides = ((rowKnot ^ columnKnot) & 1) != 0;
        return table.isMinus(rowKnot >> 1, columnKnot >> 1) == otherSides ? 1 : 0;
    }

    public int common(int t, int a, int b) {
        Table table = tableAt(t);
        if (table == null || !isKnot(table, a) || !isKnot(table, b)) {
            return NONE;
        }
        int n = table.size;
        boolean row = a < 2 * n;
        if (row != b < 2 * n) {
            return 0;
        }
        int first = row ? a : a - 2 * n;
        int second = row ? b : b - 2 * n;
        int unlike = Integer.bitCount(table.line(row, first >> 1) ^ table.line(row, second >> 1));
        return ((first ^ second) & 1) == 0 ? n - unlike : unlike;
    }

    // ---- designs, codes, signals

    public int block(int t, int r, int c, int i) {
        Table table = tableAt(t);
        if (table == null || !hasDesign(table, r, c) || !table.has(i)) {
            return NONE;
        }
        return i == r ? NOT_SO : table.designBlock(r, c, i);
    }

    public int through(int t, int r, int c, int set) {
        Table table = tableAt(t);
        if (table == null || !hasDesign(table, r, c) || !isWord(set, table.size) || inSet(set, c)) {
            return NONE;
        }
        int found = 0;
        for (int i = 0; i < table.size; i++) {
            if (i != r && (set & ~table.designBlock(r, c, i)) == 0) {
                found++;
            }
        }
        return found;
    }

    public int halves(int t, int r, int set) {
        Table table = tableAt(t);
        if (table == null || !table.has(r) || !isWord(set, table.size)) {
            return NONE;
        }
        int found = 0;
        for (int i = 0; i < table.size; i++) {
            int unlike = table.rows[i] ^ table.rows[r];
            if (i != r && (set & unlike) == 0) {
                found++;
            }
            if (i != r && (set & ~unlike) == 0) {
                found++;
            }
        }
        return found;
    }

    public int nearest(int t, int word, int what) {
        Table table = tableAt(t);
        if (table == null || !isWord(word, table.size) || what < 0 || what > 3) {
            return NONE;
        }
        int nearestCode = 0;
        int least = table.size + 1;
        int asNear = 0;
        for (int code = 0; code < 2 * table.size; code++) {
            int unlike = Integer.bitCount(table.rows[code >> 1] ^ word);
            int apart = (code & 1) == 0 ? unlike : table.size - unlike;
            if (apart < least) {
                least = apart;
                nearestCode = code;
                asNear = 0;
            }
            if (apart == least) {
                asNear++;
            }
        }
        switch (what) {
            case 0:
                return nearestCode >> 1;
            case 1:
                return nearestCode & 1;
            case 2:
                return least;
            default:
                return asNear;
        }
    }

    public int signal(int i, int v) {
        if (i < 0 || i >= MOST_ORDER || v < -MOST_NUMBER || v > MOST_NUMBER) {
            return NO_SUM;
        }
        int before = numbers[i];
        numbers[i] = v;
        return before;
    }

    public int spectrum(int t, int i, boolean back) {
        Table table = tableAt(t);
        if (table == null || !table.has(i)) {
            return NO_AMOUNT;
        }
        if (!back) {
            return rowSpectrum(table, i);
        }
        int total = 0;
        for (int k = 0; k < table.size; k++) {
            int amount = rowSpectrum(table, k);
            total += table.isMinus(k, i) ? -amount : amount;
        }
        return total;
    }

    public int field(int q, int a, int b, int what) {
        if (Galois.prime(q) == 0 || a < 0 || a >= q || b < 0 || b >= q) {
            return NONE;
        }
        switch (what) {
            case 0:
                return Galois.total(q, a, b);
            case 1:
                return Galois.times(q, a, b);
            case 2:
                return Galois.difference(q, a, b);
            case 3:
                return inSet(Galois.squares(q), a) ? 1 : 0;
            default:
                return NONE;
        }
    }

    public int fours(int m, int i, int what) {
        if (m != 1 && m != 3 && m != 5 && m != 7) {
            return NONE;
        }
        if (i == NONE) {
            return what == 0 ? quartets.search(m, NONE) : NONE;
        }
        if (i < 0 || what < 0 || what > 3 || quartets.search(m, i) <= i) {
            return NONE;
        }
        return quartets.chosen[what];
    }

    public int count(int what) {
        switch (what) {
            case 0:
                return Integer.bitCount(filledPlaces());
            case 1:
                return filledPlaces();
            case 2:
                return toldCount;
            case 3:
                return perpendicularPlaces();
            default:
                return NONE;
        }
    }

    // ---- helpers of the calls

    private Table tableAt(int t) {
        if (t < 0 || t >= PLACES || shelf[t].size == 0) {
            return null;
        }
        return shelf[t];
    }

    private int emptyPlace() {
        for (int t = 0; t < PLACES; t++) {
            if (shelf[t].size == 0) {
                return t;
            }
        }
        return NONE;
    }

    private int filledPlaces() {
        int places = 0;
        for (int t = 0; t < PLACES; t++) {
            if (shelf[t].size > 0) {
                places |= 1 << t;
            }
        }
        return places;
    }

    private int perpendicularPlaces() {
        int places = 0;
        for (int t = 0; t < PLACES; t++) {
            if (shelf[t].size > 0 && shelf[t].firstSlantPair() == NOT_SO) {
                places |= 1 << t;
            }
        }
        return places;
    }

    private boolean toldFits(int n) {
        for (int i = 0; i < toldCount; i++) {
            if (!isWord(told[i], n)) {
                return false;
            }
        }
        return true;
    }

    private int rowSpectrum(Table table, int i) {
        int total = 0;
        for (int j = 0; j < table.size; j++) {
            total += table.isMinus(i, j) ? -numbers[j] : numbers[j];
        }
        return total;
    }

    /** How many threes of lines from start on, without the line that is left out, come with word to the size v. */
    private int countTriples(int n, int start, int leftOut, int word, int v) {
        int found = 0;
        for (int b = start; b < n; b++) {
            for (int c = b + 1; c < n && b != leftOut; c++) {
                int three = word ^ lines[b] ^ lines[c];
                for (int d = c + 1; d < n && c != leftOut; d++) {
                    if (d != leftOut && Math.abs(signSum(three ^ lines[d], n)) == v) {
                        found++;
                    }
                }
            }
        }
        return found;
    }

    private static boolean inSet(int set, int element) {
        return (set >> element & 1) != 0;
    }

    private static boolean isWord(int word, int n) {
        return word >= 0 && word < 1 << n;
    }

    /** The sum of n signs that are told as bits. */
    private static int signSum(int word, int n) {
        return n - 2 * Integer.bitCount(word);
    }

    /** The columns whose bit in word is as bit j is; bits beyond the ORDER are the caller's to cut. */
    private static int alikeAt(int word, int j) {
        return inSet(word, j) ? word : ~word;
    }

    /** A row like an unused one ahead of it, or against it in all columns, brings no search what that one doesn't. */
    private static boolean isAgain(int[] rows, int n, int i, int used) {
        int all = (1 << n) - 1;
        for (int k = 0; k < i && i < rows.length; k++) {
            int unlike = rows[k] ^ rows[i];
            if (!inSet(used, k) && (unlike == 0 || unlike == all)) {
                return true;
            }
        }
        return false;
    }

    /** Row i of the round square of a row of m signs. */
    private static int shiftedRound(int word, int m, int i) {
        return (word << i | word >>> (m - i)) & ((1 << m) - 1);
    }

    private static int fourWords(int m, int first, int second, int third, int fourth) {
        return first | second << m | third << (2 * m) | fourth << (3 * m);
    }

    private static int productRow(Table first, int i, Table second, int k) {
        int m = second.size;
        int plus = second.rows[k];
        int minus = plus ^ second.mask();
        int word = 0;
        for (int j = 0; j < first.size; j++) {
            word |= (first.isMinus(i, j) ? minus : plus) << (j * m);
        }
        return word;
    }

    private static int conference(int q, int squares, int i, int j) {
        if (i == j) {
            return 0;
        }
        if (i == 0 || j == 0) {
            return 1;
        }
        return inSet(squares, Galois.difference(q, i - 1, j - 1)) ? 1 : -1;
    }

    private static void laySmallBlock(Table made, int i, int j, int entry) {
        // Bits 0 to 3: upper left, upper right, lower left, lower right.
        int block = entry == 0 ? 14 : entry > 0 ? 8 : 7;
        made.rows[2 * i] |= (block & 3) << (2 * j);
        made.rows[2 * i + 1] |= (block >> 2) << (2 * j);
    }

    private static boolean canMatch(Table from, Table to) {
        if (from.size != to.size || from.size > MOST_SEARCHED) {
            return false;
        }
        return from.size <= MOST_FREE || from.firstSlantPair() == NOT_SO && to.firstSlantPair() == NOT_SO;
    }

    private static boolean isKnot(Table table, int a) {
        return a >= 0 && a < 4 * table.size;
    }

    private static boolean hasDesign(Table table, int r, int c) {
        return table.size >= LEAST_DESIGN && table.has(r) && table.has(c);
    }

    /** One PLACE of the SHELF; its size is 0 while it is empty. */
    private static final class Table {
        private int size;
        private final int[] rows = new int[MOST_ORDER];
        // Two times the number that the line had, and 1 if it is signed since.
        private int[] rowTrail = new int[MOST_ORDER];
        private int[] columnTrail = new int[MOST_ORDER];
        private boolean turned;
        // BEST is dear, and is kept until the signs change.
        private boolean bestKnown;
        private int bestSum;
        private int bestColumns;

        private void begin(int n) {
            size = n;
            Arrays.fill(rows, 0);
            beginTrail();
        }

        private void beginTrail() {
            for (int i = 0; i < MOST_ORDER; i++) {
                rowTrail[i] = 2 * i;
                columnTrail[i] = 2 * i;
            }
            turned = false;
            bestKnown = false;
        }

        private void layRows(int[] words, int n) {
            begin(n);
            for (int i = 0; i < n && i < words.length; i++) {
                rows[i] = words[i];
            }
        }

        private boolean has(int i) {
            return i >= 0 && i < size;
        }

        private int mask() {
            return (1 << size) - 1;
        }

        private boolean isMinus(int i, int j) {
            return inSet(rows[i], j);
        }

        private void setMinus(int i, int j) {
            rows[i] |= 1 << j;
        }

        private int line(boolean row, int i) {
            if (row) {
                return rows[i];
            }
            int word = 0;
            for (int k = 0; k < size; k++) {
                word |= (rows[k] >> i & 1) << k;
            }
            return word;
        }

        private void copyLines(boolean row, int[] into) {
            for (int i = 0; i < size && i < into.length; i++) {
                into[i] = line(row, i);
            }
        }

        private void signLine(boolean row, int i) {
            bestKnown = false;
            if (row) {
                rows[i] ^= mask();
                rowTrail[i] ^= 1;
                return;
            }
            for (int k = 0; k < size; k++) {
                rows[k] ^= 1 << i;
            }
            columnTrail[i] ^= 1;
        }

        private void exchangeLines(boolean row, int i, int k) {
            bestKnown = false;
            if (row) {
                exchangeNumbers(rows, i, k);
                exchangeNumbers(rowTrail, i, k);
                return;
            }
            for (int r = 0; r < size; r++) {
                int unlike = (rows[r] >> i ^ rows[r] >> k) & 1;
                rows[r] ^= unlike << i | unlike << k;
            }
            exchangeNumbers(columnTrail, i, k);
        }

        private static void exchangeNumbers(int[] in, int i, int k) {
            int kept = in[i];
            in[i] = in[k];
            in[k] = kept;
        }

        private void transpose() {
            for (int i = 0; i < size; i++) {
                for (int j = 0; j < i; j++) {
                    int unlike = (rows[i] >> j ^ rows[j] >> i) & 1;
                    rows[i] ^= unlike << j;
                    rows[j] ^= unlike << i;
                }
            }
            int[] kept = rowTrail;
            rowTrail = columnTrail;
            columnTrail = kept;
            turned = !turned;
            bestKnown = false;
        }

        private boolean switchRows(int a, int b, int c, int d, int j) {
            int four = rows[a] ^ rows[b] ^ rows[c] ^ rows[d];
            if (Math.abs(signSum(four, size)) != size) {
                return false;
            }
            int columns = mask() & alikeAt(rows[a] ^ rows[b], j)
                    & alikeAt(rows[a] ^ rows[c], j) & alikeAt(rows[a] ^ rows[d], j);
            rows[a] ^= columns;
            rows[b] ^= columns;
            rows[c] ^= columns;
            rows[d] ^= columns;
            beginTrail();
            return true;
        }

        /** 28 times the lesser, and the other row, of the first two that are not PERPENDICULAR. */
        private int firstSlantPair() {
            for (int i = 0; i < size; i++) {
                for (int k = i + 1; k < size; k++) {
                    if (signSum(rows[i] ^ rows[k], size) != 0) {
                        return MOST_ORDER * i + k;
                    }
                }
            }
            return NOT_SO;
        }

        private int countSlantPairs() {
            int found = 0;
            for (int i = 0; i < size; i++) {
                for (int k = i + 1; k < size; k++) {
                    if (signSum(rows[i] ^ rows[k], size) != 0) {
                        found++;
                    }
                }
            }
            return found;
        }

        private int designBlock(int r, int c, int i) {
            return alikeAt(rows[i] ^ rows[r], c) & mask() & ~(1 << c);
        }
    }

    /** FIELDS; prime(q) tells whether there is one, the others answer for those alone. */
    private static final class Galois {
        /** What a FIELD's digits are counted by; 0 where there is no such FIELD. */
        private static int prime(int q) {
            switch (q) {
                case 3: case 5: case 7: case 11: case 13: case 17: case 19: case 23:
                    return q;
                case 9: case 27:
                    return 3;
                case 25:
                    return 5;
                default:
                    return 0;
            }
        }

        private static int total(int q, int a, int b) {
            int p = prime(q);
            if (p == 0) {
                return 0;
            }
            return element(p, a + b, a / p + b / p, a / p / p + b / p / p);
        }

        private static int difference(int q, int a, int b) {
            int p = prime(q);
            if (p == 0) {
                return 0;
            }
            return element(p, a - b, a / p - b / p, a / p / p - b / p / p);
        }

        private static int times(int q, int a, int b) {
            int p = prime(q);
            if (p == 0) {
                return 0;
            }
            int a0 = a % p;
            int a1 = a / p % p;
            int a2 = a / p / p;
            int b0 = b % p;
            int b1 = b / p % p;
            int b2 = b / p / p;
            int ones = a0 * b0;
            int xs = a0 * b1 + a1 * b0;
            int squares = a0 * b2 + a1 * b1 + a2 * b0;
            if (q != 27) {
                // By 3 the rest of -1 is 2, so that x times x is 2 in both FIELDS that have x alone.
                return element(p, ones + 2 * squares, xs, 0);
            }
            // xxx is x and 1, so xxxx is xx and x.
            int cubes = a1 * b2 + a2 * b1;
            int fourths = a2 * b2;
            return element(p, ones + cubes, xs + cubes + fourths, squares + fourths);
        }

        /** All SQUARES as a set of bits. */
        private static int squares(int q) {
            int set = 0;
            for (int a = 1; a < q; a++) {
                set |= 1 << times(q, a, a);
            }
            return set;
        }

        /** Each part is taken by its rest; parts of a prime q above the first are 0. */
        private static int element(int p, int ones, int xs, int squares) {
            if (p <= 0) {
                return 0;
            }
            return Math.floorMod(ones, p) + p * Math.floorMod(xs, p) + p * p * Math.floorMod(squares, p);
        }
    }

    /** The search for rows behind those that are TOLD. */
    private static final class Completion {
        // Lists of what may follow stand behind one another here: at ORDER 12 that is
        // 462, 200 and 82 rows by one, two and three rows ahead, and no more than 82 each by others.
        private static final int ROOM = 1600;

        private final int[] rows = new int[MOST_SEARCHED];
        private final int[] candidates = new int[ROOM];

        private boolean find(int[] ahead, int aheadCount, int n) {
            if (n > MOST_SEARCHED || aheadCount > n || aheadCount > ahead.length) {
                return false;
            }
            for (int i = 0; i < aheadCount; i++) {
                rows[i] = ahead[i];
                if (!isPerpendicularToFirst(rows[i], i, n)) {
                    return false;
                }
            }
            int count = aheadCount;
            if (count == 0) {
                // Each table can be signed by columns so that its row 0 has + alone.
                rows[0] = 0;
                count = 1;
            }
            int end = 0;
            // A row behind may be signed, so the lesser of both, without the highest bit, stands.
            for (int word = 0; word < 1 << (n - 1) && end < ROOM; word++) {
                if (isPerpendicularToFirst(word, count, n)) {
                    candidates[end] = word;
                    end++;
                }
            }
            return extend(this, n, count, 0, end);
        }

        private boolean isPerpendicularToFirst(int word, int count, int n) {
            for (int i = 0; i < count; i++) {
                if (signSum(word ^ rows[i], n) != 0) {
                    return false;
                }
            }
            return true;
        }

        /** Rows behind go up, as any order of them will do, so each list holds greater ones alone. */
        private static boolean extend(Completion search, int n, int depth, int start, int end) {
            if (depth >= n || depth >= MOST_SEARCHED) {
                return true;
            }
            int[] list = search.candidates;
            for (int i = start; i < end && end - i >= n - depth; i++) {
                int word = list[i];
                search.rows[depth] = word;
                int top = end;
                for (int k = i + 1; k < end && top < ROOM; k++) {
                    if (signSum(word ^ list[k], n) == 0) {
                        list[top] = list[k];
                        top++;
                    }
                }
                if (extend(search, n, depth + 1, end, top)) {
                    return true;
                }
            }
            return false;
        }
    }

    /** The search for WITNESSES: rows get their images one by one, columns are held in classes that may still match. */
    private static final class Match {
        private int n;
        private int[] from;
        private int[] to;
        private int fromTurned;
        private int toTurned;
        private final int[] images = new int[MOST_SEARCHED];
        // Classes of columns at a depth, from 12 times it on: as sets of columns of both tables.
        private final int[] fromClasses = new int[MOST_SEARCHED * (MOST_SEARCHED + 1)];
        private final int[] toClasses = new int[MOST_SEARCHED * (MOST_SEARCHED + 1)];
        private final int[] classCounts = new int[MOST_SEARCHED + 1];

        private boolean findFirst(Table first, Table second) {
            lay(first, second);
            return seek(this, 0, 0);
        }

        private void lay(Table first, Table second) {
            n = first.size;
            from = first.rows;
            to = second.rows;
            fromClasses[0] = first.mask();
            toClasses[0] = second.mask();
            classCounts[0] = 1;
        }

        private static boolean seek(Match match, int depth, int used) {
            if (depth >= match.n || depth >= MOST_SEARCHED) {
                return true;
            }
            for (int code = 0; code < 2 * match.n; code++) {
                int i = code >> 1;
                if (!inSet(used, i) && !isAgain(match.to, match.n, i, used)
                        && match.fits(depth, code) && seek(match, depth + 1, used | 1 << i)) {
                    return true;
                }
            }
            return false;
        }

        /** Gives a row its image, and parts the classes of columns by it; false if the parts are unlike in size. */
        private boolean fits(int depth, int code) {
            int all = (1 << n) - 1;
            int fromWord = (code & 1) == 0 ? from[depth] : from[depth] ^ all;
            int toWord = to[code >> 1];
            if (depth == 0) {
                // Columns may be signed: they are compared as they are against row 0.
                fromTurned = fromWord;
                toTurned = toWord;
            }
            fromWord ^= fromTurned;
            toWord ^= toTurned;
            int start = depth * MOST_SEARCHED;
            int end = start + classCounts[depth];
            int top = start + MOST_SEARCHED;
            for (int c = start; c < end; c++) {
                int fromPart = fromClasses[c] & fromWord;
                int toPart = toClasses[c] & toWord;
                if (Integer.bitCount(fromPart) != Integer.bitCount(toPart)) {
                    return false;
                }
                top = addClass(top, fromPart, toPart);
                top = addClass(top, fromClasses[c] & ~fromWord, toClasses[c] & ~toWord);
            }
            classCounts[depth + 1] = top - start - MOST_SEARCHED;
            images[depth] = code;
            return true;
        }

        private int addClass(int top, int fromPart, int toPart) {
            if (fromPart == 0 || top >= fromClasses.length) {
                return top;
            }
            fromClasses[top] = fromPart;
            toClasses[top] = toPart;
            return top + 1;
        }

        /** Of columns in one class those with less numbers take the less images. */
        private int columnImage(int j) {
            int start = n * MOST_SEARCHED;
            for (int c = start; c < start + classCounts[n]; c++) {
                if (inSet(fromClasses[c], j)) {
                    int rank = Integer.bitCount(fromClasses[c] & ((1 << j) - 1));
                    int column = memberOf(toClasses[c], rank);
                    int signed = (fromTurned >> j ^ toTurned >> column) & 1;
                    return 2 * column + signed;
                }
            }
            return NOT_SO;
        }

        private static int memberOf(int set, int rank) {
            int rest = set;
            for (int i = 0; i < rank; i++) {
                rest &= rest - 1;
            }
            return Integer.numberOfTrailingZeros(rest);
        }

        /** How many images each row has while all rows ahead of it stay, multiplied; then columns that are alike. */
        private long countToItself(Table table) {
            lay(table, table);
            long ways = 1;
            int used = 0;
            for (int depth = 0; depth < n; depth++) {
                int reached = 0;
                for (int code = 0; code < 2 * n; code++) {
                    if (!inSet(used, code >> 1) && fits(depth, code)
                            && seek(this, depth + 1, used | 1 << (code >> 1))) {
                        reached++;
                    }
                }
                ways *= reached;
                fits(depth, 2 * depth);
                used |= 1 << depth;
            }
            int start = n * MOST_SEARCHED;
            for (int c = start; c < start + classCounts[n]; c++) {
                ways *= orders(Integer.bitCount(fromClasses[c]));
            }
            return ways;
        }

        private static long orders(int members) {
            long ways = 1;
            for (int k = 2; k <= members; k++) {
                ways *= k;
            }
            return ways;
        }
    }

    /** The search for the LEAST FORM: columns are held in blocks of positions that are next to one another. */
    private static final class LeastForm {
        private static final int BEYOND_ALL = 1 << MOST_FREE;

        private int n;
        private int[] rows;
        private int against;
        private final int[] least = new int[MOST_FREE];
        // Blocks at a depth, lowest positions first, from 6 times it on.
        private final int[] blocks = new int[MOST_FREE * (MOST_FREE + 1)];
        private final int[] blockCounts = new int[MOST_FREE + 1];

        private void find(Table table) {
            n = table.size;
            rows = table.rows;
            Arrays.fill(least, BEYOND_ALL);
            // Any row can be row 0, with + alone when columns are signed by it.
            least[0] = 0;
            blocks[MOST_FREE] = table.mask();
            blockCounts[1] = 1;
            for (int i = 0; i < n; i++) {
                against = rows[i];
                lower(this, 1, 1 << i);
            }
        }

        private static void lower(LeastForm form, int depth, int used) {
            if (depth >= form.n || depth >= MOST_FREE) {
                return;
            }
            for (int code = 0; code < 2 * form.n; code++) {
                int i = code >> 1;
                if (inSet(used, i) || isAgain(form.rows, form.n, i, used)) {
                    continue;
                }
                int word = form.rows[i] ^ form.against;
                if ((code & 1) != 0) {
                    word = ~word;
                }
                int value = form.splitBlocks(depth, word);
                if (value < form.least[depth]) {
                    Arrays.fill(form.least, depth, form.n, BEYOND_ALL);
                    form.least[depth] = value;
                }
                if (value == form.least[depth]) {
                    lower(form, depth + 1, used | 1 << i);
                }
            }
        }

        /** Each block is parted, - to its lower positions; the answer is what the row is then. */
        private int splitBlocks(int depth, int word) {
            int start = depth * MOST_FREE;
            int top = start + MOST_FREE;
            int position = 0;
            int value = 0;
            for (int b = start; b < start + blockCounts[depth]; b++) {
                int minus = blocks[b] & word;
                int plus = blocks[b] & ~word;
                value |= ((1 << Integer.bitCount(minus)) - 1) << position;
                position += Integer.bitCount(blocks[b]);
                top = addBlock(top, minus);
                top = addBlock(top, plus);
            }
            blockCounts[depth + 1] = top - start - MOST_FREE;
            return value;
        }

        private int addBlock(int top, int columns) {
            if (columns == 0 || top >= blocks.length) {
                return top;
            }
            blocks[top] = columns;
            return top + 1;
        }
    }

    /** BEST: all sets of columns, each unlike the one ahead of it in one column; a byte of two longs is a row's count of +. */
    private static final class Summit {
        private static final long EACH = 0x0101010101010101L;
        private static final long HIGH = 0x8080808080808080L;

        private final long[] lowSteps = new long[MOST_BEST];
        private final long[] highSteps = new long[MOST_BEST];

        private void climb(Table table) {
            int n = table.size;
            laySteps(table, 0, lowSteps);
            laySteps(table, 8, highSteps);
            long lowAll = n * lanes(n);
            long highAll = n * lanes(n - 8);
            long low = plusCounts(table, 0);
            long high = plusCounts(table, 8);
            int most = greaterSides(low, lowAll) + greaterSides(high, highAll);
            int columns = 0;
            int set = 0;
            // A set and its rest bring the same, so the lesser, without the highest column, will do.
            for (int step = 1; step < 1 << (n - 1); step++) {
                int j = Integer.numberOfTrailingZeros(step);
                set ^= 1 << j;
                boolean signed = inSet(set, j);
                low += signed ? lowSteps[j] : -lowSteps[j];
                high += signed ? highSteps[j] : -highSteps[j];
                int now = greaterSides(low, lowAll) + greaterSides(high, highAll);
                if (now > most || now == most && set < columns) {
                    most = now;
                    columns = set;
                }
            }
            table.bestSum = 2 * most - n * n;
            table.bestColumns = columns;
            table.bestKnown = true;
        }

        /** 1 in each byte that belongs to a row. */
        private static long lanes(int rowsLeft) {
            if (rowsLeft <= 0) {
                return 0;
            }
            return rowsLeft >= 8 ? EACH : EACH >>> (8 * (8 - rowsLeft));
        }

        private static long plusCounts(Table table, int firstRow) {
            long counts = 0;
            for (int i = firstRow; i < table.size && i < firstRow + 8; i++) {
                long plus = table.size - Integer.bitCount(table.rows[i]);
                counts |= plus << (8 * (i - firstRow));
            }
            return counts;
        }

        /** What the counts of + get when a column is signed: 1 more where it has -, 1 less where it has +. */
        private static void laySteps(Table table, int firstRow, long[] steps) {
            for (int j = 0; j < table.size && j < steps.length; j++) {
                long minus = 0;
                for (int i = firstRow; i < table.size && i < firstRow + 8; i++) {
                    if (table.isMinus(i, j)) {
                        minus |= 1L << (8 * (i - firstRow));
                    }
                }
                steps[j] = 2 * minus - lanes(table.size - firstRow);
            }
        }

        /** The sum over bytes of the greater of the count of + and the count of -. */
        private static int greaterSides(long plus, long all) {
            long minus = all - plus;
            long plusWins = ((plus | HIGH) - minus) >>> 7 & EACH;
            long chosen = (plusWins << 8) - plusWins;
            long greater = plus & chosen | minus & ~chosen;
            return (int) (greater * EACH >>> 56);
        }
    }

    /** Determinants without fractions: each division by the pivot ahead leaves no rest. */
    private static final class Elimination {
        private final long[] cells = new long[MOST_SEARCHED * MOST_SEARCHED];

        private long value(Table table) {
            int n = table.size;
            if (n < 1 || n > MOST_SEARCHED) {
                return 0;
            }
            for (int i = 0; i < n; i++) {
                for (int j = 0; j < n; j++) {
                    cells[i * n + j] = table.isMinus(i, j) ? -1 : 1;
                }
            }
            long before = 1;
            boolean turned = false;
            for (int k = 0; k < n; k++) {
                int pivot = pivotRow(n, k);
                if (pivot == NONE || before == 0) {
                    return 0;
                }
                if (pivot != k) {
                    exchangeCells(n, k, pivot);
                    turned = !turned;
                }
                clearBelow(n, k, before);
                before = cells[k * n + k];
            }
            return turned ? -before : before;
        }

        private int pivotRow(int n, int k) {
            for (int i = k; i < n; i++) {
                if (cells[i * n + k] != 0) {
                    return i;
                }
            }
            return NONE;
        }

        private void exchangeCells(int n, int i, int k) {
            for (int j = 0; j < n; j++) {
                long kept = cells[i * n + j];
                cells[i * n + j] = cells[k * n + j];
                cells[k * n + j] = kept;
            }
        }

        private void clearBelow(int n, int k, long before) {
            if (before == 0) {
                return;
            }
            for (int i = k + 1; i < n; i++) {
                for (int j = k + 1; j < n; j++) {
                    long cross = cells[i * n + j] * cells[k * n + k] - cells[i * n + k] * cells[k * n + j];
                    cells[i * n + j] = cross / before;
                }
            }
        }
    }

    /** FOURS. */
    private static final class Quartets {
        private static final int MOST_ROWS = 8;

        private final int[] rows = new int[MOST_ROWS];
        private final int[] shifts = new int[MOST_ROWS];
        private int rowCount;
        private final int[] chosen = new int[4];

        /** How many FOURS there are; of the one that is wanted the rows are kept. */
        private int search(int m, int wanted) {
            layRows(m);
            int found = 0;
            for (int a = 0; a < rowCount; a++) {
                for (int b = 0; b < rowCount; b++) {
                    for (int c = 0; c < rowCount; c++) {
                        int three = shifts[a] + shifts[b] + shifts[c];
                        for (int d = 0; d < rowCount; d++) {
                            if (three + shifts[d] != 0) {
                                continue;
                            }
                            if (found == wanted) {
                                keep(a, b, c, d);
                            }
                            found++;
                        }
                    }
                }
            }
            return found;
        }

        private void keep(int a, int b, int c, int d) {
            chosen[0] = rows[a];
            chosen[1] = rows[b];
            chosen[2] = rows[c];
            chosen[3] = rows[d];
        }

        private void layRows(int m) {
            rowCount = 0;
            for (int word = 0; word < 1 << m && rowCount < MOST_ROWS; word += 2) {
                if (isMirrored(word, m)) {
                    rows[rowCount] = word;
                    shifts[rowCount] = allShifts(word, m);
                    rowCount++;
                }
            }
        }

        private static boolean isMirrored(int word, int m) {
            for (int k = 1; k < m; k++) {
                if (inSet(word, k) != inSet(word, m - k)) {
                    return false;
                }
            }
            return true;
        }

        /**
         * The sums of a row's products with itself shifted, in one number: FOUR is PERPENDICULAR
         * if those of four rows come to 0 at each shift. They stay within 28, so 64 keeps them apart.
         */
        private static int allShifts(int word, int m) {
            int packed = 0;
            for (int s = 1; 2 * s < m; s++) {
                packed = 64 * packed + signSum(word ^ shiftedRound(word, m, s), m);
            }
            return packed;
        }
    }
}
