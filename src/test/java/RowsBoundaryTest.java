// The boundary cases of promises 10 to 12: useful, weight and gain.
public final class RowsBoundaryTest {
    public static void main(String[] args) {
        Checks.sentence("10: BAD_ARG if i is too small", () -> usefulOfNoTable(Samples.tooSmall()));
        Checks.sentence("10: BAD_ARG if i is too large", () -> usefulOfNoTable(Samples.tooLarge(4)));
        Checks.sentence("10: in some answer, no rows", RowsBoundaryTest::usefulOfNothing);
        Checks.sentence("10: in some answer, one table empty", RowsBoundaryTest::usefulWithATableEmpty);
        Checks.sentence("10: in some answer, all ten of each table", RowsBoundaryTest::usefulAllTen);
        Checks.sentence("10: in some answer, counted once", RowsBoundaryTest::usefulCountedOnce);

        Checks.sentence("11: in how many answers, the most", RowsBoundaryTest::weightOfTheMost);
        Checks.sentence("11: there, but in no answer", RowsBoundaryTest::weightInNoAnswer);
        Checks.sentence("11: 0 if it is not there", RowsBoundaryTest::weightOfARowNotThere);
        Checks.sentence("11: 0 if it is not there, no rows", RowsBoundaryTest::weightOfNothing);
        WrongRows.eachWay("11: 0 if there is none such", WrongRows.WEIGHT);

        Checks.sentence("12: how many more, from no answer", RowsBoundaryTest::gainFromNothing);
        Checks.sentence("12: how many more, none", RowsBoundaryTest::gainOfNone);
        Checks.sentence("12: how many more, the most", RowsBoundaryTest::gainOfTheMost);
        Checks.sentence("12: also if that has 10 rows", RowsBoundaryTest::gainInFullTables);
        Checks.sentence("12: with the row there too, put tells the same", RowsBoundaryTest::gainIsWhatPutBrings);
        Checks.sentence("12: 0 if it is there", RowsBoundaryTest::gainOfARowThatIsThere);
        Checks.sentence("12: a question only, nothing is put", RowsBoundaryTest::gainPutsNothing);
        WrongRows.eachWay("12: BAD_ARG as for put", WrongRows.GAIN);
        Checks.end();
    }

    private static void usefulOfNoTable(int[] wrong) {
        for (int i : wrong) {
            Samples.refused(x -> x.useful(i), Checks.BAD_ARG);
        }
    }

    private static void usefulOfNothing() {
        for (int i = 0; i < 4; i++) {
            new Run().useful(i).is(0);
        }
    }

    private static void usefulWithATableEmpty() {
        for (int empty = 0; empty < 4; empty++) {
            Run x = Samples.large();
            x.clear(empty);
            for (int i = 0; i < 4; i++) {
                x.useful(i).is(0);
            }
        }
    }

    private static void usefulAllTen() {
        Run x = Samples.greatest();
        x.useful(0).is(10);
        x.useful(1).is(4);
        x.useful(2).is(10);
        x.useful(3).is(10);
        Run y = new Run().fill(0, 0, 0, 0, 7).fill(3, 0, 0, 7, 0).fill(1, 7, 0, 7, 7);
        for (int v = 0; v < 8; v++) {
            y.fill(1, 0, v).fill(2, v, 0);
        }
        y.useful(0).is(2);
        y.useful(1).is(10);
        y.useful(2).is(8);
        y.useful(3).is(2);
    }

    private static void usefulCountedOnce() {
        Run x = Samples.lone(7, 7, 7, 7, 7);
        for (int v = 0; v < 7; v++) {
            x.fill(0, v, 7).fill(2, 7, v).fill(3, 7, v);
        }
        x.count().is(512);
        x.useful(0).is(8);
        x.useful(1).is(1);
        x.useful(2).is(8);
        x.useful(3).is(8);
    }

    private static void weightOfTheMost() {
        Run x = Samples.greatest();
        // p and q, and 10 rows (r, s) with 8 t
        x.weight(0, 0, 0).is(80);
        // q and r, and 8 p, 8 s, 8 t
        x.weight(1, 0, 0).is(512);
        // r and s, and 8 * 8 + 2 * 2 triples (p, q, t)
        x.weight(2, 0, 7).is(68);
        // q and t, and 10 rows (r, s) with 8 p
        x.weight(3, 0, 7).is(80);
    }

    private static void weightInNoAnswer() {
        Run x = Samples.six();
        x.weight(0, 3, 3).is(0);
        x.weight(1, 4, 4).is(0);
        x.weight(2, 5, 5).is(0);
        x.weight(3, 3, 1).is(0);
    }

    private static void weightOfARowNotThere() {
        Run x = Samples.six();
        // Each of these would be in answers if it were there.
        x.weight(0, 5, 1).is(0);
        x.weight(1, 1, 0).is(0);
        x.weight(2, 0, 0).is(0);
        x.weight(3, 7, 7).is(0);
        x.compareAll();
    }

    private static void weightOfNothing() {
        Run x = new Run();
        Samples.forEachRow((i, a, b) -> x.weight(i, a, b).is(0));
    }

    private static void gainFromNothing() {
        for (int i = 0; i < 4; i++) {
            Run x = Samples.lone(4, 4, 4, 4, 4);
            x.drop(i, 4, 4);
            x.gain(i, 4, 4).is(1);
            x.gain(i, 3, 3).is(0);
            x.count().is(0);
            new Run().gain(i, 0, 0).is(0);
        }
    }

    private static void gainOfNone() {
        Run x = Samples.six();
        x.gain(0, 0, 0).is(0);
        x.gain(1, 0, 0).is(0);
        x.gain(2, 1, 1).is(0);
        x.gain(3, 0, 0).is(0);
    }

    private static void gainOfTheMost() {
        Run x = new Run().fill(1, 1, 0, 1, 1, 1, 2, 1, 3, 1, 4, 1, 5, 1, 6, 1, 7, 2, 0, 2, 1);
        for (int v = 0; v < 8; v++) {
            x.fill(0, v, 0).fill(2, 0, v).fill(3, 0, v);
        }
        x.count().is(0);
        x.gain(1, 0, 0).is(512);
        x.compareAll();
    }

    private static void gainInFullTables() {
        Run x = Samples.large();
        x.gain(0, 7, 1).is(2);
        x.gain(1, 1, 7).is(1);
        x.gain(2, 0, 5).is(65);
        x.gain(3, 1, 5).is(2);
        x.compareAll();
    }

    private static void gainIsWhatPutBrings() {
        Samples.forEachRow((i, a, b) -> {
            Run x = Samples.six();
            if (!x.model().rows[i][a][b]) {
                int more = x.gain(i, a, b).got();
                x.put(i, a, b);
                x.count().is(6 + more);
            }
        });
    }

    private static void gainOfARowThatIsThere() {
        Samples.forEachRow((i, a, b) -> {
            Run six = Samples.six();
            if (six.model().rows[i][a][b]) {
                Samples.refusedIn(six, x -> x.gain(i, a, b), 0);
            }
            Run large = Samples.large();
            if (large.model().rows[i][a][b]) {
                Samples.refusedIn(large, x -> x.gain(i, a, b), 0);
            }
        });
    }

    private static void gainPutsNothing() {
        for (int i = 0; i < 4; i++) {
            Run x = Samples.six();
            for (int row = 0; row < 64; row++) {
                x.gain(i, row / 8, row % 8);
            }
            x.compareAll();
            Run y = Samples.large();
            for (int row = 0; row < 64; row++) {
                y.gain(i, row / 8, row % 8);
            }
            y.compareAll();
        }
    }
}
