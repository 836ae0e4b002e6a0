// The boundary cases of promises 13 to 16: values, with, ends and sum.
public final class ColumnsBoundaryTest {
    public static void main(String[] args) {
        Checks.sentence("13: BAD_ARG if c is too small", () -> valuesOfNoColumn(Samples.tooSmall()));
        Checks.sentence("13: BAD_ARG if c is too large", () -> valuesOfNoColumn(Samples.tooLarge(5)));
        Checks.sentence("13: how many different values, none", ColumnsBoundaryTest::valuesOfNothing);
        Checks.sentence("13: how many different values, one", ColumnsBoundaryTest::valuesOfOneAnswer);
        Checks.sentence("13: how many different values, all eight", ColumnsBoundaryTest::valuesAllEight);
        Checks.sentence("13: in the answers, not in the tables", ColumnsBoundaryTest::valuesInTheAnswersAlone);

        Checks.sentence("14: BAD_ARG if c is too small", () -> withNoColumn(Samples.tooSmall()));
        Checks.sentence("14: BAD_ARG if c is too large", () -> withNoColumn(Samples.tooLarge(5)));
        Checks.sentence("14: BAD_ARG if v is too small", () -> withNoValue(Samples.tooSmall()));
        Checks.sentence("14: BAD_ARG if v is too large", () -> withNoValue(Samples.tooLarge(8)));
        Checks.sentence("14: BAD_ARG if both are wrong", ColumnsBoundaryTest::withBothWrong);
        Checks.sentence("14: how many answers, none", ColumnsBoundaryTest::withOfNothing);
        Checks.sentence("14: how many answers, v at both ends", ColumnsBoundaryTest::withAtTheEnds);
        Checks.sentence("14: how many answers, of the most there can be", ColumnsBoundaryTest::withOfTheMost);

        Checks.sentence("15: how many pairs, none", ColumnsBoundaryTest::endsOfNothing);
        Checks.sentence("15: different pairs, each counted once", ColumnsBoundaryTest::endsCountedOnce);
        Checks.sentence("15: pairs, not values", ColumnsBoundaryTest::endsArePairs);
        Checks.sentence("15: how many pairs, all 64", ColumnsBoundaryTest::endsOfTheMost);

        Checks.sentence("16: the sum over no answers", ColumnsBoundaryTest::sumOfNothing);
        Checks.sentence("16: the sum over one answer, s and t at both ends", ColumnsBoundaryTest::sumOfOneAnswer);
        Checks.sentence("16: over all answers, each counted", ColumnsBoundaryTest::sumCountsEach);
        Checks.sentence("16: over the most answers", ColumnsBoundaryTest::sumOfTheMost);
        Checks.end();
    }

    private static void valuesOfNoColumn(int[] wrong) {
        for (int c : wrong) {
            Samples.refused(x -> x.values(c), Checks.BAD_ARG);
        }
    }

    private static void valuesOfNothing() {
        for (int c = 0; c < 5; c++) {
            new Run().values(c).is(0);
            for (int i = 0; i < 4; i++) {
                Run x = Samples.large();
                x.clear(i);
                x.values(c).is(0);
            }
        }
    }

    private static void valuesOfOneAnswer() {
        Run low = Samples.lone(0, 0, 0, 0, 0);
        Run high = Samples.lone(7, 7, 7, 7, 7);
        for (int c = 0; c < 5; c++) {
            low.values(c).is(1);
            high.values(c).is(1);
        }
    }

    private static void valuesAllEight() {
        Run x = new Run();
        for (int v = 0; v < 8; v++) {
            x.fill(0, v, v).fill(1, v, v).fill(2, v, v).fill(3, v, v);
        }
        for (int c = 0; c < 5; c++) {
            x.values(c).is(8);
        }
    }

    private static void valuesInTheAnswersAlone() {
        Run x = Samples.lone(1, 2, 3, 4, 5).fill(0, 7, 7).fill(1, 6, 6).fill(2, 7, 7).fill(3, 5, 5);
        for (int c = 0; c < 5; c++) {
            x.values(c).is(1);
        }
    }

    private static void withNoColumn(int[] wrong) {
        for (int c : wrong) {
            Samples.refused(x -> x.with(c, 0), Checks.BAD_ARG);
            Samples.refused(x -> x.with(c, 7), Checks.BAD_ARG);
        }
    }

    private static void withNoValue(int[] wrong) {
        for (int v : wrong) {
            for (int column = 0; column < 5; column++) {
                int c = column;
                Samples.refused(x -> x.with(c, v), Checks.BAD_ARG);
            }
        }
    }

    private static void withBothWrong() {
        Samples.refused(x -> x.with(-1, -1), Checks.BAD_ARG);
        Samples.refused(x -> x.with(-1, 8), Checks.BAD_ARG);
        Samples.refused(x -> x.with(5, -1), Checks.BAD_ARG);
        Samples.refused(x -> x.with(5, 8), Checks.BAD_ARG);
    }

    private static void withOfNothing() {
        Run none = new Run();
        Run six = Samples.six();
        for (int c = 0; c < 5; c++) {
            for (int v = 0; v < 8; v++) {
                none.with(c, v).is(0);
            }
        }
        // The value stands in a row of the column's table, but in no answer.
        six.with(0, 3).is(0);
        six.with(1, 3).is(0);
        six.with(2, 5).is(0);
        six.with(3, 5).is(0);
        six.with(4, 1).is(0);
    }

    private static void withAtTheEnds() {
        Run low = Samples.lone(0, 0, 0, 0, 0);
        Run high = Samples.lone(7, 7, 7, 7, 7);
        for (int c = 0; c < 5; c++) {
            low.with(c, 0).is(1);
            low.with(c, 7).is(0);
            high.with(c, 0).is(0);
            high.with(c, 7).is(1);
        }
        Run x = Samples.lone(1, 2, 3, 4, 5);
        for (int c = 0; c < 5; c++) {
            for (int v = 0; v < 8; v++) {
                x.with(c, v).is(v == c + 1 ? 1 : 0);
            }
        }
    }

    private static void withOfTheMost() {
        Run x = Samples.greatest();
        x.with(0, 0).is(80);
        x.with(0, 7).is(100);
        x.with(1, 0).is(640);
        x.with(1, 1).is(40);
        x.with(2, 0).is(544);
        x.with(2, 1).is(136);
        x.with(3, 0).is(68);
        x.with(3, 7).is(136);
        x.with(4, 0).is(80);
        x.with(4, 7).is(100);
    }

    private static void endsOfNothing() {
        new Run().ends().is(0);
        for (int i = 0; i < 4; i++) {
            Run x = Samples.large();
            x.clear(i);
            x.ends().is(0);
        }
    }

    private static void endsCountedOnce() {
        Run x = new Run().fill(0, 0, 0, 0, 1).fill(1, 0, 0, 1, 1, 0, 1).fill(2, 0, 6, 1, 6).fill(3, 0, 2, 1, 3, 1, 4);
        x.count().is(4);
        x.ends().is(1);
    }

    private static void endsArePairs() {
        // 0 with 1 and 1 with 0, but neither with itself
        Run x = new Run().fill(0, 0, 4, 1, 5).fill(1, 4, 4, 5, 5).fill(2, 4, 1, 5, 0).fill(3, 4, 0, 5, 0);
        x.ends().is(2);
        x.fill(1, 4, 5);
        x.ends().is(3);
        x.fill(1, 5, 4);
        x.ends().is(4);
    }

    private static void endsOfTheMost() {
        Samples.greatest().ends().is(64);
    }

    private static void sumOfNothing() {
        new Run().sum().is(0);
        for (int i = 0; i < 4; i++) {
            Run x = Samples.large();
            x.clear(i);
            x.sum().is(0);
        }
    }

    private static void sumOfOneAnswer() {
        Samples.lone(0, 0, 0, 0, 0).sum().is(0);
        Samples.lone(7, 7, 7, 0, 0).sum().is(0);
        Samples.lone(0, 0, 0, 7, 0).sum().is(7);
        Samples.lone(0, 0, 0, 0, 7).sum().is(7);
        Samples.lone(7, 7, 7, 7, 7).sum().is(14);
    }

    private static void sumCountsEach() {
        // Four answers with the same s and t.
        Run x = Samples.lone(1, 2, 3, 4, 5).fill(0, 6, 2).fill(1, 2, 7).fill(2, 7, 4);
        x.count().is(4);
        x.sum().is(4 * (4 + 5));
    }

    private static void sumOfTheMost() {
        // The ten s add up to 28 + 13, the t to 28 with q = 0 and to 13 with q = 1.
        Samples.greatest().sum().is(64 * 41 + 8 * 10 * 28 + 4 * 41 + 2 * 10 * 13);
    }
}
