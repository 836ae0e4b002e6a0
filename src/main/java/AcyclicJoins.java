/**
 * Four tables of pairs joined along their columns, and the answers in order.
 *
 * Nothing but the rows is kept: every question is counted anew from them, so no
 * second record of the same facts can fall out of step with the tables.
 */
public final class AcyclicJoins {
    public static final int BAD_ARG = -1;
    public static final int FULL = -2;
    public static final int NONE = -4;

    private static final int TABLES = 4;
    private static final int COLUMNS = 5;
    private static final int VALUES = 8;
    private static final int CODES = 32768;
    private static final int MOST_ROWS = 10;
    private static final int CELLS = 256;

    /** Stands for a value that is left free; no value of a column is negative. */
    private static final int ANY = -1;

    private final boolean[] held = new boolean[CELLS];

    public AcyclicJoins() {
    }

    public int put(int i, int a, int b) {
        if (!isRow(i, a, b)) {
            return BAD_ARG;
        }
        int cell = cellOf(i, a, b);
        if (held[cell]) {
            return NONE;
        }
        if (fitting(i, ANY, ANY) >= MOST_ROWS) {
            return FULL;
        }
        held[cell] = true;
        return fitting(i, ANY, ANY);
    }

    public int drop(int i, int a, int b) {
        if (!isRow(i, a, b)) {
            return BAD_ARG;
        }
        int cell = cellOf(i, a, b);
        if (!held[cell]) {
            return NONE;
        }
        held[cell] = false;
        return fitting(i, ANY, ANY);
    }

    public int clear(int i) {
        if (!isTable(i)) {
            return BAD_ARG;
        }
        int before = fitting(i, ANY, ANY);
        for (int a = 0; a < VALUES; a++) {
            for (int b = 0; b < VALUES; b++) {
                held[cellOf(i, a, b)] = false;
            }
        }
        return before;
    }

    public int rows(int i) {
        if (!isTable(i)) {
            return BAD_ARG;
        }
        return fitting(i, ANY, ANY);
    }

    public int count() {
        return matching(ANY, ANY, ANY, ANY, ANY);
    }

    public int answer(int k) {
        if (k < 0 || k >= count()) {
            return NONE;
        }
        int code = 0;
        int left = k;
        for (int c = 0; c < COLUMNS; c++) {
            for (int v = 0; v < VALUES; v++) {
                int longer = code + (v << 3 * c);
                int here = agreeing(longer, c + 1);
                if (left < here) {
                    code = longer;
                    break;
                }
                left -= here;
            }
        }
        return code;
    }

    public boolean has(int code) {
        if (!isCode(code)) {
            return false;
        }
        return agreeing(code, COLUMNS) > 0;
    }

    public int rank(int code) {
        if (!isCode(code)) {
            return BAD_ARG;
        }
        int before = 0;
        for (int c = 0; c < COLUMNS; c++) {
            int start = code & ((1 << 3 * c) - 1);
            int own = digit(code, c);
            for (int v = 0; v < own; v++) {
                before += agreeing(start + (v << 3 * c), c + 1);
            }
        }
        return before;
    }

    public int useful(int i) {
        if (!isTable(i)) {
            return BAD_ARG;
        }
        int n = 0;
        for (int a = 0; a < VALUES; a++) {
            for (int b = 0; b < VALUES; b++) {
                if (weight(i, a, b) > 0) {
                    n++;
                }
            }
        }
        return n;
    }

    public int weight(int i, int a, int b) {
        if (!isRow(i, a, b)) {
            return 0;
        }
        switch (i) {
            case 0:
                return matching(a, b, ANY, ANY, ANY);
            case 1:
                return matching(ANY, a, b, ANY, ANY);
            case 2:
                return matching(ANY, ANY, a, b, ANY);
            default:
                return matching(ANY, a, ANY, ANY, b);
        }
    }

    public int gain(int i, int a, int b) {
        if (!isRow(i, a, b)) {
            return BAD_ARG;
        }
        int cell = cellOf(i, a, b);
        if (held[cell]) {
            return 0;
        }
        // Every new answer holds the new row, so its weight, were it there, is the gain.
        held[cell] = true;
        int more = weight(i, a, b);
        held[cell] = false;
        return more;
    }

    public int values(int c) {
        if (!isColumn(c)) {
            return BAD_ARG;
        }
        int n = 0;
        for (int v = 0; v < VALUES; v++) {
            if (with(c, v) > 0) {
                n++;
            }
        }
        return n;
    }

    public int with(int c, int v) {
        if (!isColumn(c) || !isValue(v)) {
            return BAD_ARG;
        }
        int p = c == 0 ? v : ANY;
        int q = c == 1 ? v : ANY;
        int r = c == 2 ? v : ANY;
        int s = c == 3 ? v : ANY;
        int t = c == 4 ? v : ANY;
        return matching(p, q, r, s, t);
    }

    public int ends() {
        int n = 0;
        for (int p = 0; p < VALUES; p++) {
            for (int s = 0; s < VALUES; s++) {
                if (matching(p, ANY, ANY, s, ANY) > 0) {
                    n++;
                }
            }
        }
        return n;
    }

    public int sum() {
        int total = 0;
        for (int v = 0; v < VALUES; v++) {
            total += v * (with(3, v) + with(4, v));
        }
        return total;
    }

    private static boolean isTable(int i) {
        return i >= 0 && i < TABLES;
    }

    private static boolean isColumn(int c) {
        return c >= 0 && c < COLUMNS;
    }

    private static boolean isValue(int v) {
        return v >= 0 && v < VALUES;
    }

    private static boolean isCode(int code) {
        return code >= 0 && code < CODES;
    }

    private static boolean isRow(int i, int a, int b) {
        return isTable(i) && isValue(a) && isValue(b);
    }

    private static int cellOf(int i, int a, int b) {
        return (i * VALUES + a) * VALUES + b;
    }

    private static int digit(int code, int c) {
        return (code >> 3 * c) & (VALUES - 1);
    }

    private static int from(int v) {
        return v == ANY ? 0 : v;
    }

    private static int until(int v) {
        return v == ANY ? VALUES : v + 1;
    }

    /**
     * How many answers agree with the code in their first n columns, n from 1 to 5.
     * The code's lowest digit is the column that the order looks at first, so the
     * answers that share a beginning are those that share the code's low digits.
     */
    private int agreeing(int code, int n) {
        int p = digit(code, 0);
        int q = n > 1 ? digit(code, 1) : ANY;
        int r = n > 2 ? digit(code, 2) : ANY;
        int s = n > 3 ? digit(code, 3) : ANY;
        int t = n > 4 ? digit(code, 4) : ANY;
        return matching(p, q, r, s, t);
    }

    /**
     * How many answers have these values, where ANY leaves a column free.
     * Once q and r are chosen, the four tables no longer depend on each other, so
     * the numbers of their rows are multiplied.
     */
    private int matching(int p, int q, int r, int s, int t) {
        int n = 0;
        int endQ = until(q);
        int endR = until(r);
        for (int y = from(q); y < endQ; y++) {
            int beside = fitting(0, p, y) * fitting(3, y, t);
            for (int z = from(r); z < endR; z++) {
                n += beside * fitting(1, y, z) * fitting(2, z, s);
            }
        }
        return n;
    }

    /** How many rows of table i have these values, where ANY leaves a column free. */
    private int fitting(int i, int a, int b) {
        int n = 0;
        int endA = until(a);
        int endB = until(b);
        for (int x = from(a); x < endA; x++) {
            for (int y = from(b); y < endB; y++) {
                if (held[cellOf(i, x, y)]) {
                    n++;
                }
            }
        }
        return n;
    }
}
