import java.util.List;
import java.util.function.Function;
import java.util.function.Supplier;

// The boundary cases of the sections 'What it is', 'The public face' and 'Terms'.
public final class TermsBoundaryTest {
    private static final int[] EXTREMES = {Integer.MIN_VALUE, Integer.MIN_VALUE + 1, -32769, -9, -1, 0, 3, 4,
        7, 8, 63, 256, 32767, 32768, 1 << 26, Integer.MAX_VALUE};

    public static void main(String[] args) {
        Checks.sentence("the constants", TermsBoundaryTest::constants);
        Checks.sentence("used for at most 512 calls: each method at the 512th", TermsBoundaryTest::eachMethodLast);
        Checks.sentence("used for at most 512 calls: 512 changes", TermsBoundaryTest::changesAlone);
        Checks.sentence("four tables 0 to 3", TermsBoundaryTest::fourTables);
        Checks.sentence("each a set", TermsBoundaryTest::eachASet);
        Checks.sentence("at most 10 rows, all four full at once", TermsBoundaryTest::allFull);
        Checks.sentence("a and b from 0 to 7", TermsBoundaryTest::everyRowAlone);
        Checks.sentence("an answer joins on q and r alone", TermsBoundaryTest::joins);
        Checks.sentence("ordered by p before all else", TermsBoundaryTest::orderByP);
        Checks.sentence("then by q", TermsBoundaryTest::orderByQ);
        Checks.sentence("then by r, s, t", TermsBoundaryTest::orderByRST);
        Checks.sentence("the code, from 0 to 32767", TermsBoundaryTest::codes);
        Checks.sentence("no call ever throws: one argument", TermsBoundaryTest::oneArgument);
        Checks.sentence("no call ever throws: two arguments", TermsBoundaryTest::twoArguments);
        Checks.sentence("no call ever throws: three arguments", TermsBoundaryTest::threeArguments);
        Checks.sentence("a refused call changes nothing: one after the other", TermsBoundaryTest::manyRefusals);
        Checks.end();
    }

    private static void constants() {
        Checks.due("BAD_ARG", AcyclicJoins.BAD_ARG, -1);
        Checks.due("FULL", AcyclicJoins.FULL, -2);
        Checks.due("NONE", AcyclicJoins.NONE, -4);
    }

    private static void eachMethodLast() {
        last(x -> x.put(1, 7, 7), 4);
        last(x -> x.drop(1, 7, 0), 2);
        last(x -> x.clear(3), 4);
        last(x -> x.rows(0), 4);
        last(x -> x.count(), 6);
        last(x -> x.answer(5), Samples.code(6, 7, 0, 7, 0));
        last(x -> x.has(Samples.code(6, 7, 0, 7, 0)), 1);
        last(x -> x.rank(32767), 6);
        last(x -> x.useful(3), 3);
        last(x -> x.weight(0, 0, 1), 4);
        last(x -> x.gain(1, 7, 2), 4);
        last(x -> x.values(4), 3);
        last(x -> x.with(0, 0), 5);
        last(x -> x.ends(), 4);
        last(x -> x.sum(), 50);
    }

    private static void last(Function<Run, Run.Answer> call, int want) {
        Run x = Samples.six();
        x.idleUpTo(Run.MOST_CALLS - 1);
        call.apply(x).is(want);
    }

    private static void changesAlone() {
        Run x = new Run();
        for (int n = 0; n < Run.MOST_CALLS / 2; n++) {
            x.put(n % 4, n / 4 % 8, n / 32).is(1);
            x.drop(n % 4, n / 4 % 8, n / 32).is(0);
        }
    }

    private static void fourTables() {
        Run x = new Run();
        for (int i = 0; i < 4; i++) {
            x.put(i, 7, 0).is(1);
        }
        for (int i = 0; i < 4; i++) {
            x.drop(i, 7, 0).is(0);
        }
        Samples.lone(0, 0, 0, 0, 0).count().is(1);
    }

    private static void eachASet() {
        for (int i = 0; i < 4; i++) {
            Run x = Samples.lone(3, 3, 3, 3, 3);
            x.put(i, 3, 3).is(Checks.NONE);
            x.count().is(1);
            x.drop(i, 3, 3).is(0);
            x.drop(i, 3, 3).is(Checks.NONE);
            x.count().is(0);
        }
    }

    private static void allFull() {
        Run x = Samples.large();
        for (int i = 0; i < 4; i++) {
            x.rows(i).is(10);
            x.put(i, 7, 7).is(Checks.FULL);
        }
        x.compareAll();
    }

    private static void everyRowAlone() {
        Samples.forEachRow((i, a, b) -> {
            Run x = new Run();
            x.put(i, a, b).is(1);
            x.compareAll();
        });
    }

    private static void joins() {
        Samples.lone(1, 2, 3, 4, 5).count().is(1);
        // Every column may have the value of another one.
        Samples.lone(6, 6, 6, 6, 6).count().is(1);
        for (int v = 0; v < 8; v++) {
            new Run().fill(0, 1, v).fill(1, 2, 3).fill(2, 3, 4).fill(3, 2, 5).count().is(v == 2 ? 1 : 0);
            new Run().fill(0, 1, 2).fill(1, v, 3).fill(2, 3, 4).fill(3, 2, 5).count().is(v == 2 ? 1 : 0);
            new Run().fill(0, 1, 2).fill(1, 2, v).fill(2, 3, 4).fill(3, 2, 5).count().is(v == 3 ? 1 : 0);
            new Run().fill(0, 1, 2).fill(1, 2, 3).fill(2, v, 4).fill(3, 2, 5).count().is(v == 3 ? 1 : 0);
            new Run().fill(0, 1, 2).fill(1, 2, 3).fill(2, 3, 4).fill(3, v, 5).count().is(v == 2 ? 1 : 0);
            new Run().fill(0, v, 2).fill(1, 2, 3).fill(2, 3, 7 - v).fill(3, 2, v).count().is(1);
        }
    }

    // In the tests of the order, what comes first has the greater values in all later columns.
    private static void orderByP() {
        Run x = new Run().fill(0, 1, 0, 0, 7).fill(1, 0, 0, 7, 7).fill(2, 0, 0, 7, 7).fill(3, 0, 0, 7, 7);
        x.answer(0).is(Samples.code(0, 7, 7, 7, 7));
        x.answer(1).is(Samples.code(1, 0, 0, 0, 0));
        x.rank(Samples.code(0, 7, 7, 7, 7)).is(0);
        x.rank(Samples.code(1, 0, 0, 0, 0)).is(1);
    }

    private static void orderByQ() {
        Run x = new Run().fill(0, 3, 2, 3, 1).fill(1, 2, 0, 1, 7).fill(2, 0, 0, 7, 7).fill(3, 2, 0, 1, 7);
        x.answer(0).is(Samples.code(3, 1, 7, 7, 7));
        x.answer(1).is(Samples.code(3, 2, 0, 0, 0));
        x.rank(Samples.code(3, 1, 7, 7, 7)).is(0);
        x.rank(Samples.code(3, 2, 0, 0, 0)).is(1);
    }

    private static void orderByRST() {
        Run x = new Run().fill(0, 3, 2).fill(1, 2, 6, 2, 5).fill(2, 6, 0, 5, 7, 5, 6).fill(3, 2, 0, 2, 7);
        int[] codes = {
            Samples.code(3, 2, 5, 6, 0), Samples.code(3, 2, 5, 6, 7), Samples.code(3, 2, 5, 7, 0),
            Samples.code(3, 2, 5, 7, 7), Samples.code(3, 2, 6, 0, 0), Samples.code(3, 2, 6, 0, 7)};
        for (int k = 0; k < codes.length; k++) {
            x.answer(k).is(codes[k]);
            x.rank(codes[k]).is(k);
        }
    }

    private static void codes() {
        Samples.lone(0, 0, 0, 0, 0).answer(0).is(0);
        Samples.lone(7, 7, 7, 7, 7).answer(0).is(32767);
        for (int v = 1; v < 8; v++) {
            Samples.lone(v, 0, 0, 0, 0).answer(0).is(v);
            Samples.lone(0, v, 0, 0, 0).answer(0).is(8 * v);
            Samples.lone(0, 0, v, 0, 0).answer(0).is(64 * v);
            Samples.lone(0, 0, 0, v, 0).answer(0).is(512 * v);
            Samples.lone(0, 0, 0, 0, v).answer(0).is(4096 * v);
        }
    }

    private static void oneArgument() {
        for (Supplier<Run> sample : Samples.ALL) {
            Run x = sample.get();
            for (int n : EXTREMES) {
                x.rows(n);
                x.answer(n);
                x.has(n);
                x.rank(n);
                x.useful(n);
                x.values(n);
                x.clear(n);
            }
        }
    }

    private static void twoArguments() {
        for (Supplier<Run> sample : Samples.ALL) {
            Run x = sample.get();
            for (int c : EXTREMES) {
                for (int v : EXTREMES) {
                    x.with(c, v);
                }
            }
        }
    }

    private static void threeArguments() {
        for (Supplier<Run> sample : Samples.ALL) {
            for (int i : EXTREMES) {
                pairsOfExtremes(sample.get(), (x, a, b) -> x.put(i, a, b));
                pairsOfExtremes(sample.get(), (x, a, b) -> x.drop(i, a, b));
                pairsOfExtremes(sample.get(), (x, a, b) -> x.weight(i, a, b));
                pairsOfExtremes(sample.get(), (x, a, b) -> x.gain(i, a, b));
            }
        }
    }

    private interface PairCall {
        void on(Run x, int a, int b);
    }

    private static void pairsOfExtremes(Run x, PairCall call) {
        for (int a : EXTREMES) {
            for (int b : EXTREMES) {
                call.on(x, a, b);
            }
        }
    }

    private static void manyRefusals() {
        List<Function<Run, Run.Answer>> calls = List.of(
                x -> x.put(4, 0, 0), x -> x.put(0, -1, 0), x -> x.put(0, 0, 8),
                x -> x.drop(-1, 0, 0), x -> x.drop(0, 8, 0), x -> x.drop(0, 0, -1),
                x -> x.clear(-1), x -> x.clear(4), x -> x.rows(-1), x -> x.rows(4),
                x -> x.rank(-1), x -> x.rank(32768), x -> x.useful(-1), x -> x.useful(4),
                x -> x.gain(4, 0, 0), x -> x.gain(0, 8, 0), x -> x.gain(0, 0, -1),
                x -> x.values(-1), x -> x.values(5), x -> x.with(-1, 0), x -> x.with(5, 0),
                x -> x.with(0, -1), x -> x.with(0, 8));
        for (Supplier<Run> sample : Samples.ALL) {
            Run x = sample.get();
            for (Function<Run, Run.Answer> call : calls) {
                call.apply(x).is(Checks.BAD_ARG);
            }
            x.answer(-1).is(Checks.NONE);
            x.answer(642).is(Checks.NONE);
            x.compareAll();
        }
    }
}
