import java.util.List;
import java.util.function.Function;
import java.util.function.Supplier;

/** Tables to start from, and arguments out of range. */
final class Samples {
    /** Tables that are empty, of ordinary size, and full. */
    static final List<Supplier<Run>> ALL = List.of(Run::new, Samples::six, Samples::large);

    private Samples() {
    }

    static int code(int p, int q, int r, int s, int t) {
        return p + 8 * q + 64 * r + 512 * s + 4096 * t;
    }

    /**
     * Six answers, in their order (p, q, r, s, t):
     * 0: 0 1 2 3 5, 1: 0 1 2 3 6, 2: 0 1 2 4 5, 3: 0 1 2 4 6, 4: 0 7 0 7 0, 5: 6 7 0 7 0;
     * and a row in each table that is in no answer.
     */
    static Run six() {
        return new Run()
                .fill(0, 6, 7, 0, 7, 0, 1, 3, 3)
                .fill(1, 7, 0, 1, 2, 4, 4)
                .fill(2, 2, 4, 2, 3, 0, 7, 5, 5)
                .fill(3, 1, 6, 7, 0, 1, 5, 3, 1);
    }

    static int[] sixCodes() {
        return new int[] {
            code(0, 1, 2, 3, 5), code(0, 1, 2, 3, 6), code(0, 1, 2, 4, 5), code(0, 1, 2, 4, 6),
            code(0, 7, 0, 7, 0), code(6, 7, 0, 7, 0)};
    }

    /**
     * All tables full, 642 answers: (p, 0, r, s, t) with 8 p, 8 t and 10 rows (r, s),
     * and (0, 1, 0, s, 0) with two s.
     */
    static Run large() {
        Run x = new Run();
        for (int v = 0; v < 8; v++) {
            x.fill(0, v, 0).fill(1, 0, v).fill(2, v, 0).fill(3, 0, v);
        }
        return x.fill(0, 0, 1, 0, 2).fill(1, 1, 0, 3, 0).fill(2, 0, 7, 1, 7).fill(3, 1, 0, 4, 4);
    }

    /**
     * The most answers that ten rows a table can make, 680: each q takes part with
     * at most 10 rows of table 2, and the rows (p, q) and (q, t) make at most
     * 8 * 8 + 2 * 2 triples (p, q, t).
     */
    static Run greatest() {
        Run x = new Run();
        for (int v = 0; v < 8; v++) {
            x.fill(0, v, 0).fill(2, 0, v).fill(3, 0, v);
        }
        return x.fill(0, 6, 1, 7, 1).fill(2, 1, 6, 1, 7).fill(3, 1, 6, 1, 7)
                .fill(1, 0, 0, 0, 1, 1, 0, 1, 1, 2, 0, 2, 1, 3, 0, 4, 0, 5, 7, 7, 7);
    }

    /** One answer, (p, q, r, s, t), and no other row. */
    static Run lone(int p, int q, int r, int s, int t) {
        return new Run().fill(0, p, q).fill(1, q, r).fill(2, r, s).fill(3, q, t);
    }

    static int[] tooSmall() {
        return new int[] {-1, -2, -4, -5, -8, -64, -256, -32768, -65536, -(1 << 26), -(1 << 29),
            Integer.MIN_VALUE + 1, Integer.MIN_VALUE};
    }

    /** Numbers from the bound on, among them such as a byte, a short or a product of ints wraps round. */
    static int[] tooLarge(int bound) {
        return new int[] {bound, bound + 1, 2 * bound, bound + 8, 256 + bound, 65536, 65536 + bound - 1,
            1 << 26, 1 << 29, 1 << 30, Integer.MAX_VALUE - 1, Integer.MAX_VALUE};
    }

    /**
     * Rows that there cannot be, but that a careless index, a mask or a narrow
     * number takes for the row (a, b) of table i.
     */
    static int[][] alike(int i, int a, int b) {
        return new int[][] {
            {i, a - 1, b + 8}, {i, a + 1, b - 8}, {i - 1, a + 8, b}, {i + 1, a - 8, b},
            {i, a, b + 8}, {i, a, b - 8}, {i, a + 8, b}, {i, a - 8, b}, {i + 4, a, b}, {i - 4, a, b},
            {i + 256, a, b}, {i, a + 256, b}, {i, a, b + 256},
            {i + 65536, a, b}, {i, a + 65536, b}, {i, a, b + 65536},
            {i + (1 << 26), a, b}, {i, a + (1 << 29), b}, {i - (1 << 29), a, b}};
    }

    interface RowTest {
        void on(int i, int a, int b);
    }

    static void forEachRow(RowTest test) {
        for (int row = 0; row < 256; row++) {
            test.on(row / 64, row / 8 % 8, row % 8);
        }
    }

    /** Whatever the tables hold, the call answers this and leaves all as it was. */
    static void refused(Function<Run, Run.Answer> call, int want) {
        for (Supplier<Run> sample : ALL) {
            refusedIn(sample.get(), call, want);
        }
    }

    static void refusedIn(Run x, Function<Run, Run.Answer> call, int want) {
        call.apply(x).is(want);
        x.compareAll();
    }
}
