// The promises in ordinary use; the answers that are due were worked out by hand.
public final class PromiseTest {
    public static void main(String[] args) {
        Checks.sentence("2 put", PromiseTest::put);
        Checks.sentence("3 drop", PromiseTest::drop);
        Checks.sentence("4 clear", PromiseTest::clear);
        Checks.sentence("5 rows", PromiseTest::rows);
        Checks.sentence("6 count", PromiseTest::count);
        Checks.sentence("7 answer", PromiseTest::answer);
        Checks.sentence("8 has", PromiseTest::has);
        Checks.sentence("9 rank", PromiseTest::rank);
        Checks.sentence("10 useful", PromiseTest::useful);
        Checks.sentence("11 weight", PromiseTest::weight);
        Checks.sentence("12 gain", PromiseTest::gain);
        Checks.sentence("13 values", PromiseTest::values);
        Checks.sentence("14 with", PromiseTest::with);
        Checks.sentence("15 ends", PromiseTest::ends);
        Checks.sentence("16 sum", PromiseTest::sum);
        Checks.sentence("questions change nothing", PromiseTest::questionsChangeNothing);
        Checks.end();
    }

    private static void put() {
        for (int i = 0; i < 4; i++) {
            Run x = new Run();
            x.put(i, 0, 0).is(1);
            x.put(i, 7, 7).is(2);
            x.put(i, 2, 5).is(3);
            x.put(i, 5, 2).is(4);
            for (int other = 0; other < 4; other++) {
                x.rows(other).is(other == i ? 4 : 0);
            }
            x.compareAll();
        }
    }

    private static void drop() {
        for (int i = 0; i < 4; i++) {
            Run x = new Run().fill(i, 0, 0, 7, 7, 2, 5);
            x.drop(i, 7, 7).is(2);
            x.drop(i, 0, 0).is(1);
            x.put(i, 7, 7).is(2);
            x.compareAll();
        }
        Run y = Samples.six();
        y.drop(2, 2, 3).is(3);
        y.count().is(4);
        y.compareAll();
    }

    private static void clear() {
        int[] sizes = {4, 3, 4, 4};
        for (int i = 0; i < 4; i++) {
            Run x = Samples.six();
            x.clear(i).is(sizes[i]);
            for (int other = 0; other < 4; other++) {
                x.rows(other).is(other == i ? 0 : sizes[other]);
            }
            x.compareAll();
        }
    }

    private static void rows() {
        Run x = Samples.six();
        x.rows(0).is(4);
        x.rows(1).is(3);
        x.rows(2).is(4);
        x.rows(3).is(4);
    }

    private static void count() {
        Samples.six().count().is(6);
        Samples.large().count().is(642);
        Run x = new Run().fill(0, 1, 2).fill(1, 2, 3).fill(2, 3, 4).fill(3, 2, 5);
        x.count().is(1);
        x.fill(3, 2, 6).count().is(2);
        x.fill(2, 3, 0).count().is(4);
        x.drop(3, 2, 5);
        x.count().is(2);
    }

    private static void answer() {
        Run x = Samples.six();
        int[] codes = Samples.sixCodes();
        for (int k = 0; k < codes.length; k++) {
            x.answer(k).is(codes[k]);
        }
        Run y = Samples.large();
        y.answer(7).is(Samples.code(0, 0, 0, 0, 7));
        y.answer(8).is(Samples.code(0, 0, 0, 7, 0));
        y.answer(79).is(Samples.code(0, 0, 7, 0, 7));
        y.answer(80).is(Samples.code(0, 1, 0, 0, 0));
        y.answer(81).is(Samples.code(0, 1, 0, 7, 0));
        y.answer(82).is(Samples.code(1, 0, 0, 0, 0));
    }

    private static void has() {
        Run x = Samples.six();
        for (int code : Samples.sixCodes()) {
            x.has(code).is(true);
        }
        x.has(Samples.code(1, 1, 2, 3, 5)).is(false);
        x.has(Samples.code(0, 1, 0, 7, 5)).is(false);
        x.has(Samples.code(0, 1, 2, 5, 5)).is(false);
        x.has(Samples.code(0, 1, 2, 3, 7)).is(false);
    }

    private static void rank() {
        Run x = Samples.six();
        int[] codes = Samples.sixCodes();
        for (int k = 0; k < codes.length; k++) {
            x.rank(codes[k]).is(k);
        }
        x.rank(Samples.code(0, 1, 2, 3, 7)).is(2);
        x.rank(Samples.code(0, 1, 2, 5, 0)).is(4);
        x.rank(Samples.code(0, 1, 2, 2, 7)).is(0);
        x.rank(Samples.code(0, 1, 3, 0, 0)).is(4);
        x.rank(Samples.code(0, 1, 1, 7, 7)).is(0);
        x.rank(Samples.code(0, 2, 0, 0, 0)).is(4);
        x.rank(Samples.code(0, 0, 7, 7, 7)).is(0);
        x.rank(Samples.code(1, 0, 0, 0, 0)).is(5);
        x.rank(Samples.code(7, 0, 0, 0, 0)).is(6);
        x.rank(Samples.code(3, 3, 7, 7, 7)).is(5);
    }

    private static void useful() {
        Run x = Samples.six();
        x.useful(0).is(3);
        x.useful(1).is(2);
        x.useful(2).is(3);
        x.useful(3).is(3);
        Run y = Samples.large();
        y.useful(0).is(9);
        y.useful(1).is(9);
        y.useful(2).is(10);
        y.useful(3).is(9);
    }

    private static void weight() {
        Run x = Samples.six();
        x.weight(0, 0, 1).is(4);
        x.weight(0, 6, 7).is(1);
        x.weight(1, 1, 2).is(4);
        x.weight(1, 7, 0).is(2);
        x.weight(2, 2, 3).is(2);
        x.weight(2, 0, 7).is(2);
        x.weight(3, 1, 6).is(2);
        x.weight(3, 7, 0).is(2);
    }

    private static void gain() {
        Run x = Samples.six();
        x.gain(0, 5, 1).is(4);
        x.gain(1, 1, 0).is(2);
        x.gain(1, 7, 2).is(4);
        x.gain(2, 0, 0).is(2);
        x.gain(3, 7, 7).is(2);
        x.gain(3, 1, 7).is(2);
        x.count().is(6);
        x.compareAll();
    }

    private static void values() {
        int[] inSix = {2, 2, 2, 3, 3};
        int[] inLarge = {8, 2, 8, 2, 8};
        Run x = Samples.six();
        Run y = Samples.large();
        for (int c = 0; c < 5; c++) {
            x.values(c).is(inSix[c]);
            y.values(c).is(inLarge[c]);
        }
    }

    private static void with() {
        int[][] inSix = {
            {5, 0, 0, 0, 0, 0, 1, 0},
            {0, 4, 0, 0, 0, 0, 0, 2},
            {2, 0, 4, 0, 0, 0, 0, 0},
            {0, 0, 0, 2, 2, 0, 0, 2},
            {2, 0, 0, 0, 0, 2, 2, 0}};
        Run x = Samples.six();
        for (int c = 0; c < 5; c++) {
            for (int v = 0; v < 8; v++) {
                x.with(c, v).is(inSix[c][v]);
            }
        }
        Run y = Samples.large();
        y.with(0, 0).is(82);
        y.with(3, 7).is(129);
    }

    private static void ends() {
        Samples.six().ends().is(4);
        Samples.large().ends().is(16);
    }

    private static void sum() {
        // (3 + 5) + (3 + 6) + (4 + 5) + (4 + 6) + (7 + 0) + (7 + 0)
        Samples.six().sum().is(50);
        // t: 8 * 10 * 28; s: 7 in 8 * 8 * 2 answers with q = 0 and in one with q = 1
        Samples.large().sum().is(2240 + 896 + 7);
    }

    private static void questionsChangeNothing() {
        Run x = Samples.six();
        for (int c = 0; c < 4; c++) {
            x.rows(c);
            x.answer(c);
            x.useful(c);
            x.values(c);
            x.has(c);
            x.rank(c);
            for (int v = 0; v < 8; v++) {
                x.with(c, v);
                x.weight(c, 1, v);
                x.gain(c, 1, v);
            }
        }
        x.count();
        x.ends();
        x.sum();
        x.compareAll();
    }
}
