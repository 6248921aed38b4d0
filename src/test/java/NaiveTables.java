import java.util.ArrayList;
import java.util.Arrays;
import java.util.List;

/**
 * The document once more, as plainly as can be: signs are 1 and -1 in int[][], searches try everything.
 * ModelTests compares SignTables with it; nothing here is shared with SignTables.
 */
final class NaiveTables {
    private static final class Sheet {
        int[][] signs;
        int[][] rowTrail;
        int[][] columnTrail;

        Sheet(int[][] signs) {
            this.signs = signs;
            beginTrail();
        }

        int order() {
            return signs.length;
        }

        void beginTrail() {
            int n = signs.length;
            rowTrail = new int[n][];
            columnTrail = new int[n][];
            for (int i = 0; i < n; i++) {
                rowTrail[i] = new int[] {i, 0, 1};
                columnTrail[i] = new int[] {i, 0, 0};
            }
        }

        int[] line(boolean row, int i) {
            int[] line = new int[order()];
            for (int k = 0; k < order(); k++) {
                line[k] = row ? signs[i][k] : signs[k][i];
            }
            return line;
        }

        boolean isPerpendicular() {
            for (int i = 0; i < order(); i++) {
                for (int k = 0; k < order(); k++) {
                    if (i != k && dot(signs[i], signs[k]) != 0) {
                        return false;
                    }
                }
            }
            return true;
        }
    }

    private final Sheet[] shelf = new Sheet[6];
    private final List<Integer> told = new ArrayList<>();
    private final int[] numbers = new int[28];

    /** One table, of these rows, at PLACE 0. */
    static NaiveTables of(int... rows) {
        NaiveTables made = new NaiveTables();
        for (int row : rows) {
            made.tell(row);
        }
        made.take();
        return made;
    }

    // ---- tables are made

    private int firstEmpty() {
        for (int t = 0; t < 6; t++) {
            if (shelf[t] == null) {
                return t;
            }
        }
        return -1;
    }

    private int put(int[][] signs) {
        int place = firstEmpty();
        if (place < 0 || signs == null || signs.length > 28) {
            return -1;
        }
        shelf[place] = new Sheet(signs);
        return place;
    }

    private Sheet at(int t) {
        return t < 0 || t > 5 ? null : shelf[t];
    }

    static int[] signsOf(int bits, int n) {
        int[] signs = new int[n];
        for (int j = 0; j < n; j++) {
            signs[j] = (bits >> j & 1) == 1 ? -1 : 1;
        }
        return signs;
    }

    static int bitsOf(int[] signs) {
        int bits = 0;
        for (int j = 0; j < signs.length; j++) {
            if (signs[j] < 0) {
                bits += 1 << j;
            }
        }
        return bits;
    }

    static int dot(int[] a, int[] b) {
        int sum = 0;
        for (int j = 0; j < a.length; j++) {
            sum += a[j] * b[j];
        }
        return sum;
    }

    int tell(int bits) {
        if (told.size() == 28 || bits < 0 || bits > 268435455) {
            return -1;
        }
        told.add(bits);
        return told.size();
    }

    int take() {
        int n = told.size();
        if (n == 0 || firstEmpty() < 0) {
            return -1;
        }
        int[][] signs = new int[n][];
        for (int i = 0; i < n; i++) {
            if (told.get(i) >= 1L << n) {
                return -1;
            }
            signs[i] = signsOf(told.get(i), n);
        }
        told.clear();
        return put(signs);
    }

    int residues(int q) {
        if (!isField(q) || q % 4 != 3) {
            return -1;
        }
        int[][] signs = new int[q + 1][q + 1];
        for (int i = 0; i <= q; i++) {
            for (int j = 0; j <= q; j++) {
                signs[i][j] = i == 0 ? 1 : j == 0 ? -1 : i == j ? 1 : chi(q, minus(q, j - 1, i - 1));
            }
        }
        return put(signs);
    }

    int twice(int q) {
        if (!isField(q) || q % 4 != 1 || q > 13) {
            return -1;
        }
        int[][] signs = new int[2 * q + 2][2 * q + 2];
        int[][] ofZero = {{1, -1}, {-1, -1}};
        int[][] ofOne = {{1, 1}, {1, -1}};
        for (int i = 0; i < 2 * q + 2; i++) {
            for (int j = 0; j < 2 * q + 2; j++) {
                int bi = i / 2;
                int bj = j / 2;
                int c = bi == bj ? 0 : bi == 0 || bj == 0 ? 1 : chi(q, minus(q, bi - 1, bj - 1));
                signs[i][j] = c == 0 ? ofZero[i % 2][j % 2] : c * ofOne[i % 2][j % 2];
            }
        }
        return put(signs);
    }

    int doubled(int t) {
        Sheet x = at(t);
        if (x == null || x.order() > 14) {
            return -1;
        }
        int n = x.order();
        int[][] signs = new int[2 * n][2 * n];
        for (int i = 0; i < 2 * n; i++) {
            for (int j = 0; j < 2 * n; j++) {
                signs[i][j] = (i >= n && j >= n ? -1 : 1) * x.signs[i % n][j % n];
            }
        }
        return put(signs);
    }

    int product(int t, int u) {
        Sheet x = at(t);
        Sheet y = at(u);
        if (x == null || y == null || x.order() * y.order() > 28) {
            return -1;
        }
        int m = y.order();
        int all = x.order() * m;
        int[][] signs = new int[all][all];
        for (int i = 0; i < all; i++) {
            for (int j = 0; j < all; j++) {
                signs[i][j] = x.signs[i / m][j / m] * y.signs[i % m][j % m];
            }
        }
        return put(signs);
    }

    static int[][] fourSigns(int m, int a, int b, int c, int d) {
        int[] words = {a, b, c, d};
        int[][] which = {{0, 1, 2, 3}, {1, 0, 3, 2}, {2, 3, 0, 1}, {3, 2, 1, 0}};
        int[][] sign = {{1, 1, 1, 1}, {-1, 1, -1, 1}, {-1, 1, 1, -1}, {-1, -1, 1, 1}};
        int[][] signs = new int[4 * m][4 * m];
        for (int i = 0; i < 4 * m; i++) {
            for (int j = 0; j < 4 * m; j++) {
                int word = words[which[i / m][j / m]];
                int at = ((j % m - i % m) % m + m) % m;
                signs[i][j] = sign[i / m][j / m] * ((word >> at & 1) == 1 ? -1 : 1);
            }
        }
        return signs;
    }

    int four(int m, int a, int b, int c, int d) {
        if (m < 1 || m > 7) {
            return -1;
        }
        for (int word : new int[] {a, b, c, d}) {
            if (word < 0 || word >= 1 << m) {
                return -1;
            }
        }
        return put(fourSigns(m, a, b, c, d));
    }

    int bordered(int m, int a) {
        if (m < 1 || m > 27 || a < 0 || a >= 1 << m) {
            return -1;
        }
        int[][] signs = new int[m + 1][m + 1];
        for (int i = 0; i <= m; i++) {
            for (int j = 0; j <= m; j++) {
                signs[i][j] = i == 0 || j == 0 || (a >> Math.floorMod(j - i, m) & 1) == 0 ? 1 : -1;
            }
        }
        return put(signs);
    }

    int completed(int n) {
        if (firstEmpty() < 0 || n != 1 && n != 2 && n != 4 && n != 8 && n != 12 || told.size() > n) {
            return -1;
        }
        int[][] signs = new int[n][];
        for (int i = 0; i < told.size(); i++) {
            if (told.get(i) >= 1 << n) {
                return -1;
            }
            signs[i] = signsOf(told.get(i), n);
            for (int k = 0; k < i; k++) {
                if (dot(signs[i], signs[k]) != 0) {
                    return -1;
                }
            }
        }
        if (!complete(signs, told.size(), n)) {
            return -1;
        }
        told.clear();
        return put(signs);
    }

    private static boolean complete(int[][] signs, int depth, int n) {
        if (depth == n) {
            return true;
        }
        next:
        for (int word = 0; word < 1 << n; word++) {
            int[] row = signsOf(word, n);
            for (int k = 0; k < depth; k++) {
                if (dot(row, signs[k]) != 0) {
                    continue next;
                }
            }
            signs[depth] = row;
            if (complete(signs, depth + 1, n)) {
                return true;
            }
        }
        return false;
    }

    int copy(int t) {
        Sheet x = at(t);
        if (x == null || firstEmpty() < 0) {
            return -1;
        }
        int[][] signs = new int[x.order()][];
        for (int i = 0; i < x.order(); i++) {
            signs[i] = x.signs[i].clone();
        }
        return put(signs);
    }

    boolean drop(int t) {
        if (at(t) == null) {
            return false;
        }
        shelf[t] = null;
        return true;
    }

    // ---- changes

    private static boolean has(Sheet x, int i) {
        return x != null && i >= 0 && i < x.order();
    }

    boolean sign(int t, boolean row, int i) {
        Sheet x = at(t);
        if (!has(x, i)) {
            return false;
        }
        for (int k = 0; k < x.order(); k++) {
            if (row) {
                x.signs[i][k] *= -1;
            } else {
                x.signs[k][i] *= -1;
            }
        }
        int[] trail = row ? x.rowTrail[i] : x.columnTrail[i];
        trail[1] = 1 - trail[1];
        return true;
    }

    boolean exchange(int t, boolean row, int i, int k) {
        Sheet x = at(t);
        if (!has(x, i) || !has(x, k) || i == k) {
            return false;
        }
        for (int l = 0; l < x.order(); l++) {
            int kept = row ? x.signs[i][l] : x.signs[l][i];
            if (row) {
                x.signs[i][l] = x.signs[k][l];
                x.signs[k][l] = kept;
            } else {
                x.signs[l][i] = x.signs[l][k];
                x.signs[l][k] = kept;
            }
        }
        int[][] trails = row ? x.rowTrail : x.columnTrail;
        int[] kept = trails[i];
        trails[i] = trails[k];
        trails[k] = kept;
        return true;
    }

    boolean turn(int t) {
        Sheet x = at(t);
        if (x == null) {
            return false;
        }
        int n = x.order();
        int[][] signs = new int[n][n];
        for (int i = 0; i < n; i++) {
            for (int j = 0; j < n; j++) {
                signs[i][j] = x.signs[j][i];
            }
        }
        x.signs = signs;
        int[][] kept = x.rowTrail;
        x.rowTrail = x.columnTrail;
        x.columnTrail = kept;
        return true;
    }

    boolean switched(int t, int a, int b, int c, int d, int j) {
        Sheet x = at(t);
        int[] four = {a, b, c, d};
        for (int i = 0; i < 4; i++) {
            if (!has(x, four[i])) {
                return false;
            }
            for (int k = 0; k < i; k++) {
                if (four[i] == four[k]) {
                    return false;
                }
            }
        }
        if (!has(x, j) || fourSize(x, true, a, b, c, d) != x.order()) {
            return false;
        }
        int[] pattern = new int[4];
        for (int i = 0; i < 4; i++) {
            pattern[i] = x.signs[four[i]][j];
        }
        for (int l = 0; l < x.order(); l++) {
            int agree = 0;
            for (int i = 0; i < 4; i++) {
                agree += x.signs[four[i]][l] == pattern[i] ? 1 : 0;
            }
            for (int i = 0; i < 4 && (agree == 0 || agree == 4); i++) {
                x.signs[four[i]][l] *= -1;
            }
        }
        x.beginTrail();
        return true;
    }

    int norm(int t) {
        Sheet x = at(t);
        if (x == null) {
            return -1;
        }
        int signed = 0;
        for (int j = 0; j < x.order(); j++) {
            signed += x.signs[0][j] < 0 && sign(t, false, j) ? 1 : 0;
        }
        for (int i = 0; i < x.order(); i++) {
            signed += x.signs[i][0] < 0 && sign(t, true, i) ? 1 : 0;
        }
        return signed;
    }

    // ---- what there is

    int order(int t) {
        return t < 0 || t > 5 ? -1 : shelf[t] == null ? 0 : shelf[t].order();
    }

    int bits(int t, boolean row, int i) {
        return has(at(t), i) ? bitsOf(at(t).line(row, i)) : -1;
    }

    int trail(int t, boolean row, int i, int what) {
        if (!has(at(t), i) || what < 0 || what > 2) {
            return -1;
        }
        return (row ? at(t).rowTrail : at(t).columnTrail)[i][what];
    }

    int along(int t, boolean row, int i, int k) {
        Sheet x = at(t);
        return has(x, i) && has(x, k) ? dot(x.line(row, i), x.line(row, k)) : -1000;
    }

    int perpendicular(int t, int what) {
        Sheet x = at(t);
        if (x == null || what < 0 || what > 2) {
            return -1;
        }
        int first = -2;
        int pairs = 0;
        for (int i = 0; i < x.order(); i++) {
            for (int k = i + 1; k < x.order(); k++) {
                if (dot(x.signs[i], x.signs[k]) != 0) {
                    first = first == -2 ? 28 * i + k : first;
                    pairs++;
                }
            }
        }
        return what == 0 ? (pairs == 0 ? 1 : 0) : what == 1 ? first : pairs;
    }

    int sum(int t) {
        Sheet x = at(t);
        if (x == null) {
            return -1000;
        }
        int total = 0;
        for (int[] row : x.signs) {
            for (int sign : row) {
                total += sign;
            }
        }
        return total;
    }

    int best(int t, int what) {
        Sheet x = at(t);
        if (x == null || what < 0 || what > 1) {
            return -1;
        }
        if (x.order() > 16) {
            return -2;
        }
        int most = -1;
        int columns = -1;
        for (int set = 0; set < 1 << x.order(); set++) {
            int[] by = signsOf(set, x.order());
            int total = 0;
            for (int[] row : x.signs) {
                total += Math.abs(dot(row, by));
            }
            if (total > most) {
                most = total;
                columns = set;
            }
        }
        return what == 0 ? most : columns;
    }

    private static int fourSize(Sheet x, boolean row, int a, int b, int c, int d) {
        int total = 0;
        for (int l = 0; l < x.order(); l++) {
            total += row ? x.signs[a][l] * x.signs[b][l] * x.signs[c][l] * x.signs[d][l]
                    : x.signs[l][a] * x.signs[l][b] * x.signs[l][c] * x.signs[l][d];
        }
        return Math.abs(total);
    }

    private static int tallyWith(Sheet x, boolean row, int v, int with) {
        int found = 0;
        int n = x.order();
        for (int a = 0; a < n; a++) {
            for (int b = 0; b < a; b++) {
                for (int c = 0; c < b; c++) {
                    for (int d = 0; d < c; d++) {
                        boolean counts = with < 0 || a == with || b == with || c == with || d == with;
                        found += counts && fourSize(x, row, a, b, c, d) == v ? 1 : 0;
                    }
                }
            }
        }
        return found;
    }

    int tally(int t, boolean row, int v) {
        return at(t) == null || v < 0 ? -1 : tallyWith(at(t), row, v, -1);
    }

    int part(int t, boolean row, int i, int v) {
        return !has(at(t), i) || v < 0 ? -1 : tallyWith(at(t), row, v, i);
    }

    int form(int t, int i) {
        Sheet x = at(t);
        if (!has(x, i)) {
            return -1;
        }
        return x.order() > 6 ? -2 : leastForm(x)[i];
    }

    /** All orders of rows and all their signs; columns are then signed by row 0 and sorted. */
    private static int[] leastForm(Sheet x) {
        int n = x.order();
        int[] least = null;
        for (int[] order : orders(n)) {
            for (int signed = 0; signed < 1 << n; signed++) {
                int[] columns = new int[n];
                for (int j = 0; j < n; j++) {
                    int top = x.signs[order[0]][j] * ((signed & 1) == 1 ? -1 : 1);
                    for (int i = 0; i < n; i++) {
                        int sign = x.signs[order[i]][j] * ((signed >> i & 1) == 1 ? -1 : 1) * top;
                        columns[j] = 2 * columns[j] + (sign < 0 ? 1 : 0);
                    }
                }
                Arrays.sort(columns);
                int[] rows = new int[n];
                for (int i = 0; i < n; i++) {
                    for (int j = 0; j < n; j++) {
                        rows[i] |= (columns[n - 1 - j] >> (n - 1 - i) & 1) << j;
                    }
                }
                if (least == null || Arrays.compare(rows, least) < 0) {
                    least = rows;
                }
            }
        }
        return least;
    }

    static List<int[]> orders(int n) {
        List<int[]> all = new ArrayList<>();
        addOrders(new int[n], 0, all);
        return all;
    }

    private static void addOrders(int[] order, int depth, List<int[]> all) {
        if (depth == order.length) {
            all.add(order.clone());
            return;
        }
        next:
        for (int i = 0; i < order.length; i++) {
            for (int k = 0; k < depth; k++) {
                if (order[k] == i) {
                    continue next;
                }
            }
            order[depth] = i;
            addOrders(order, depth + 1, all);
        }
    }

    long determinant(int t) {
        Sheet x = at(t);
        if (x == null || x.order() > 12) {
            return -1000000000L;
        }
        long[] known = new long[1 << x.order()];
        Arrays.fill(known, Long.MIN_VALUE);
        return minor(x.signs, 0, 0, known);
    }

    /** Along row i, of the columns that are not used. */
    private static long minor(int[][] signs, int i, int used, long[] known) {
        if (i == signs.length) {
            return 1;
        }
        if (known[used] != Long.MIN_VALUE) {
            return known[used];
        }
        long total = 0;
        int sign = 1;
        for (int j = 0; j < signs.length; j++) {
            if ((used >> j & 1) == 0) {
                total += sign * signs[i][j] * minor(signs, i + 1, used | 1 << j, known);
                sign = -sign;
            }
        }
        known[used] = total;
        return total;
    }

    // ---- witnesses

    private static boolean canMatch(Sheet x, Sheet y) {
        int n = x.order();
        return n == y.order() && (n <= 6 || n <= 12 && x.isPerpendicular() && y.isPerpendicular());
    }

    /** Goes through WITNESSES in order; the first is kept, and all are counted if that is wanted. */
    private static final class Walk {
        final int[][] from;
        final int[][] to;
        final int n;
        final boolean countAll;
        final int[] rowImage;
        int[] firstRows;
        int[] firstColumns;
        long found;

        Walk(Sheet from, Sheet to, boolean countAll) {
            this.from = from.signs;
            this.to = to.signs;
            this.n = from.order();
            this.countAll = countAll;
            rowImage = new int[n];
            go(0, 0);
        }

        void go(int depth, int used) {
            if (!columnsMatch(depth)) {
                return;
            }
            if (depth == n) {
                int[] columnImage = new int[n];
                found += columns(0, 0, columnImage);
                return;
            }
            for (int image = 0; image < 2 * n && (countAll || firstRows == null); image++) {
                if ((used >> image / 2 & 1) == 0) {
                    rowImage[depth] = image;
                    go(depth + 1, used | 1 << image / 2);
                }
            }
        }

        boolean columnsMatch(int depth) {
            int[] ones = new int[n];
            int[] others = new int[n];
            for (int j = 0; j < n; j++) {
                for (int i = 0; i < depth; i++) {
                    int turned = rowImage[i] % 2 == 1 ? -1 : 1;
                    ones[j] = 2 * ones[j] + (from[i][j] * turned < 0 ? 1 : 0);
                    others[j] = 2 * others[j] + (to[rowImage[i] / 2][j] < 0 ? 1 : 0);
                }
                ones[j] = Math.min(ones[j], (1 << depth) - 1 - ones[j]);
                others[j] = Math.min(others[j], (1 << depth) - 1 - others[j]);
            }
            Arrays.sort(ones);
            Arrays.sort(others);
            return Arrays.equals(ones, others);
        }

        long columns(int j, int used, int[] columnImage) {
            if (j == n) {
                if (firstRows == null) {
                    firstRows = rowImage.clone();
                    firstColumns = columnImage.clone();
                }
                return 1;
            }
            long ways = 0;
            for (int image = 0; image < 2 * n && (countAll || firstRows == null); image++) {
                if ((used >> image / 2 & 1) == 0 && columnFits(j, image)) {
                    columnImage[j] = image;
                    ways += columns(j + 1, used | 1 << image / 2, columnImage);
                }
            }
            return ways;
        }

        boolean columnFits(int j, int image) {
            for (int i = 0; i < n; i++) {
                int sign = (rowImage[i] + image) % 2 == 1 ? -1 : 1;
                if (to[rowImage[i] / 2][image / 2] != from[i][j] * sign) {
                    return false;
                }
            }
            return true;
        }
    }

    int like(int t, int u) {
        if (at(t) == null || at(u) == null) {
            return -1;
        }
        return !canMatch(at(t), at(u)) ? -2 : new Walk(at(t), at(u), false).firstRows != null ? 1 : 0;
    }

    int image(int t, int u, boolean row, int i) {
        if (!has(at(t), i) || at(u) == null) {
            return -1;
        }
        if (!canMatch(at(t), at(u))) {
            return -2;
        }
        Walk walk = new Walk(at(t), at(u), false);
        return walk.firstRows == null ? -2 : row ? walk.firstRows[i] : walk.firstColumns[i];
    }

    long symmetries(int t) {
        if (at(t) == null) {
            return -1;
        }
        return !canMatch(at(t), at(t)) ? -2 : new Walk(at(t), at(t), true).found;
    }

    private static boolean lineBetween(Sheet x, int a, int b) {
        int n = x.order();
        if (a >= 2 * n) {
            return b < 2 * n && lineBetween(x, b, a);
        }
        if (b < 2 * n) {
            return false;
        }
        boolean sameSide = a % 2 == b % 2;
        return x.signs[a / 2][(b - 2 * n) / 2] == (sameSide ? 1 : -1);
    }

    private static boolean isKnot(Sheet x, int a) {
        return x != null && a >= 0 && a < 4 * x.order();
    }

    int joined(int t, int a, int b) {
        Sheet x = at(t);
        return !isKnot(x, a) || !isKnot(x, b) ? -1 : lineBetween(x, a, b) ? 1 : 0;
    }

    int common(int t, int a, int b) {
        Sheet x = at(t);
        if (!isKnot(x, a) || !isKnot(x, b)) {
            return -1;
        }
        int found = 0;
        for (int knot = 0; knot < 4 * x.order(); knot++) {
            found += lineBetween(x, a, knot) && lineBetween(x, b, knot) ? 1 : 0;
        }
        return found;
    }

    // ---- designs, codes, signals

    int block(int t, int r, int c, int i) {
        Sheet x = at(t);
        if (!has(x, r) || !has(x, c) || !has(x, i) || x.order() < 4) {
            return -1;
        }
        if (i == r) {
            return -2;
        }
        int set = 0;
        for (int j = 0; j < x.order(); j++) {
            if (j != c && x.signs[i][j] * x.signs[r][j] * x.signs[i][c] * x.signs[r][c] == 1) {
                set += 1 << j;
            }
        }
        return set;
    }

    int through(int t, int r, int c, int set) {
        Sheet x = at(t);
        if (!has(x, r) || !has(x, c) || x.order() < 4 || set < 0 || set >= 1 << x.order() || (set >> c & 1) == 1) {
            return -1;
        }
        int found = 0;
        for (int i = 0; i < x.order(); i++) {
            found += i != r && (block(t, r, c, i) & set) == set ? 1 : 0;
        }
        return found;
    }

    int halves(int t, int r, int set) {
        Sheet x = at(t);
        if (!has(x, r) || set < 0 || set >= 1 << x.order()) {
            return -1;
        }
        int found = 0;
        for (int i = 0; i < x.order(); i++) {
            boolean like = true;
            boolean unlike = true;
            for (int j = 0; j < x.order(); j++) {
                if ((set >> j & 1) == 1) {
                    like &= x.signs[i][j] == x.signs[r][j];
                    unlike &= x.signs[i][j] != x.signs[r][j];
                }
            }
            found += i == r ? 0 : (like ? 1 : 0) + (unlike ? 1 : 0);
        }
        return found;
    }

    int nearest(int t, int word, int what) {
        Sheet x = at(t);
        if (x == null || word < 0 || word >= 1 << x.order() || what < 0 || what > 3) {
            return -1;
        }
        int[] received = signsOf(word, x.order());
        int[] answer = {0, 0, 99, 0};
        for (int i = 0; i < x.order(); i++) {
            for (int turned = 0; turned < 2; turned++) {
                int unlike = 0;
                for (int j = 0; j < x.order(); j++) {
                    unlike += x.signs[i][j] * (turned == 1 ? -1 : 1) != received[j] ? 1 : 0;
                }
                if (unlike < answer[2]) {
                    answer = new int[] {i, turned, unlike, 1};
                } else if (unlike == answer[2]) {
                    answer[3]++;
                }
            }
        }
        return answer[what];
    }

    int signal(int i, int v) {
        if (i < 0 || i > 27 || v < -999 || v > 999) {
            return -1000;
        }
        int before = numbers[i];
        numbers[i] = v;
        return before;
    }

    int spectrum(int t, int i, boolean back) {
        Sheet x = at(t);
        if (!has(x, i)) {
            return -1000000000;
        }
        int[] spectrum = new int[x.order()];
        for (int k = 0; k < x.order(); k++) {
            spectrum[k] = dot(x.signs[k], numbers);
        }
        return back ? dot(x.line(false, i), spectrum) : spectrum[i];
    }

    // ---- fields

    static boolean isField(int q) {
        return Arrays.asList(3, 5, 7, 9, 11, 13, 17, 19, 23, 25, 27).contains(q);
    }

    /** The parts of an element, by powers of x. */
    private static int[] parts(int q, int a) {
        int p = q == 9 || q == 27 ? 3 : q == 25 ? 5 : q;
        return new int[] {a % p, a / p % p, a / p / p};
    }

    private static int whole(int q, int[] parts) {
        int p = q == 9 || q == 27 ? 3 : q == 25 ? 5 : q;
        int a = 0;
        for (int k = 2; k >= 0; k--) {
            a = a * p + Math.floorMod(parts[k], p);
        }
        return a;
    }

    static int plus(int q, int a, int b) {
        int[] x = parts(q, a);
        int[] y = parts(q, b);
        return whole(q, new int[] {x[0] + y[0], x[1] + y[1], x[2] + y[2]});
    }

    /** What has to be added to b to come to a. */
    static int minus(int q, int a, int b) {
        for (int c = 0; c < q; c++) {
            if (plus(q, b, c) == a) {
                return c;
            }
        }
        throw new IllegalStateException("no difference");
    }

    /** b is taken apart: a times 1 as often as its part tells, a times x, a times x times x. */
    static int times(int q, int a, int b) {
        int[] y = parts(q, b);
        int total = 0;
        int power = a;
        for (int k = 0; k < 3; k++) {
            for (int often = 0; often < y[k]; often++) {
                total = plus(q, total, power);
            }
            power = timesX(q, power);
        }
        return total;
    }

    private static int timesX(int q, int a) {
        int[] x = parts(q, a);
        switch (q) {
            case 9:
                return whole(q, new int[] {-x[1], x[0], 0});
            case 25:
                return whole(q, new int[] {2 * x[1], x[0], 0});
            case 27:
                return whole(q, new int[] {x[2], x[0] + x[2], x[1]});
            default:
                return 0;
        }
    }

    static int chi(int q, int a) {
        for (int b = 1; b < q; b++) {
            if (times(q, b, b) == a) {
                return 1;
            }
        }
        return a == 0 ? 0 : -1;
    }

    int field(int q, int a, int b, int what) {
        if (!isField(q) || a < 0 || a >= q || b < 0 || b >= q || what < 0 || what > 3) {
            return -1;
        }
        return what == 0 ? plus(q, a, b) : what == 1 ? times(q, a, b) : what == 2 ? minus(q, a, b)
                : chi(q, a) == 1 ? 1 : 0;
    }

    /** By the tables themselves, not by what is known of them. */
    static List<int[]> allFours(int m) {
        List<Integer> rows = new ArrayList<>();
        for (int word = 0; word < 1 << m; word++) {
            boolean fits = (word & 1) == 0;
            for (int k = 1; k < m; k++) {
                fits &= (word >> k & 1) == (word >> (m - k) & 1);
            }
            if (fits) {
                rows.add(word);
            }
        }
        List<int[]> found = new ArrayList<>();
        for (int a : rows) {
            for (int b : rows) {
                for (int c : rows) {
                    for (int d : rows) {
                        if (new Sheet(fourSigns(m, a, b, c, d)).isPerpendicular()) {
                            found.add(new int[] {a, b, c, d});
                        }
                    }
                }
            }
        }
        return found;
    }

    int fours(int m, int i, int what) {
        if (m != 1 && m != 3 && m != 5 && m != 7) {
            return -1;
        }
        List<int[]> all = allFours(m);
        if (i == -1) {
            return what == 0 ? all.size() : -1;
        }
        return i < 0 || i >= all.size() || what < 0 || what > 3 ? -1 : all.get(i)[what];
    }

    int count(int what) {
        int tables = 0;
        int places = 0;
        int straight = 0;
        for (int t = 0; t < 6; t++) {
            if (shelf[t] != null) {
                tables++;
                places += 1 << t;
                straight += shelf[t].isPerpendicular() ? 1 << t : 0;
            }
        }
        return what == 0 ? tables : what == 1 ? places : what == 2 ? told.size() : what == 3 ? straight : -1;
    }
}
