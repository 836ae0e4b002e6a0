import java.util.function.Supplier;

// The boundary cases of promises 6 to 9: count, answer, has and rank.
public final class AnswersBoundaryTest {
    // So many codes can be asked for in one run beside the rows of a full sample.
    private static final int CODES_A_RUN = 256;

    public static void main(String[] args) {
        Checks.sentence("6: the number of answers, no rows", AnswersBoundaryTest::countOfNothing);
        Checks.sentence("6: the number of answers, one table empty", AnswersBoundaryTest::countWithATableEmpty);
        Checks.sentence("6: the number of answers, rows that do not join", AnswersBoundaryTest::countWithoutJoins);
        Checks.sentence("6: the number of answers, the most there can be", AnswersBoundaryTest::countOfTheMost);

        Checks.sentence("7: 0 is the first", AnswersBoundaryTest::firstAnswer);
        Checks.sentence("7: the last one", AnswersBoundaryTest::lastAnswer);
        Checks.sentence("7: every one of the most there can be", AnswersBoundaryTest::everyAnswer);
        Checks.sentence("7: NONE if there is none, k too small", AnswersBoundaryTest::answerBelowTheFirst);
        Checks.sentence("7: NONE if there is none, k too large", AnswersBoundaryTest::answerAboveTheLast);
        Checks.sentence("7: NONE if there is none, no answers", AnswersBoundaryTest::answerOfNothing);
        Checks.sentence("7: NONE if there is none any more", AnswersBoundaryTest::answerTakenAway);

        Checks.sentence("8: the codes 0 and 32767", AnswersBoundaryTest::hasAtTheEnds);
        Checks.sentence("8: every code, six answers", () -> hasOfEveryCode(Samples::six, 6));
        Checks.sentence("8: every code, no answers", () -> hasOfEveryCode(Run::new, 0));
        Checks.sentence("8: false if it is below 0", () -> hasOutside(Samples.tooSmall()));
        Checks.sentence("8: false if it is above 32767", () -> hasOutside(Samples.tooLarge(32768)));
        Checks.sentence("8: false if it wraps round to an answer's code", AnswersBoundaryTest::hasWrapsNot);

        Checks.sentence("9: the codes 0 and 32767", AnswersBoundaryTest::rankAtTheEnds);
        Checks.sentence("9: whether it is one or not, six answers", () -> rankOfEveryCode(Samples::six));
        Checks.sentence("9: whether it is one or not, many answers", () -> rankOfEveryCode(Samples::large));
        Checks.sentence("9: whether it is one or not, no answers", () -> rankOfEveryCode(Run::new));
        Checks.sentence("9: every one of the most there can be", AnswersBoundaryTest::rankOfEveryAnswer);
        Checks.sentence("9: BAD_ARG if code is below 0", () -> rankOutside(Samples.tooSmall()));
        Checks.sentence("9: BAD_ARG if code is above 32767", () -> rankOutside(Samples.tooLarge(32768)));
        Checks.sentence("9: BAD_ARG if it wraps round to an answer's code", AnswersBoundaryTest::rankWrapsNot);
        Checks.end();
    }

    private static void countOfNothing() {
        new Run().count().is(0);
    }

    private static void countWithATableEmpty() {
        for (int i = 0; i < 4; i++) {
            Run x = Samples.large();
            x.clear(i);
            x.count().is(0);
        }
    }

    private static void countWithoutJoins() {
        Run x = new Run().fill(0, 0, 0, 1, 1).fill(1, 2, 2, 3, 3).fill(2, 4, 4, 5, 5).fill(3, 6, 6, 7, 7);
        x.count().is(0);
        // Now each table joins the next, but no q goes through all of them.
        x.fill(1, 0, 3).fill(2, 3, 3).fill(3, 1, 1);
        x.count().is(0);
        x.fill(3, 0, 0);
        x.count().is(1);
    }

    private static void countOfTheMost() {
        Samples.greatest().count().is(680);
    }

    private static void firstAnswer() {
        Samples.six().answer(0).is(Samples.code(0, 1, 2, 3, 5));
        Samples.greatest().answer(0).is(0);
        Samples.lone(7, 7, 7, 7, 7).answer(0).is(32767);
    }

    private static void lastAnswer() {
        Samples.six().answer(5).is(Samples.code(6, 7, 0, 7, 0));
        Samples.large().answer(641).is(Samples.code(7, 0, 7, 0, 7));
        Samples.greatest().answer(679).is(Samples.code(7, 1, 1, 7, 7));
    }

    private static void everyAnswer() {
        for (int from = 0; from < 680; from += 340) {
            Run x = Samples.greatest();
            for (int k = from; k < from + 340; k++) {
                x.answer(k);
            }
        }
    }

    private static void answerBelowTheFirst() {
        for (int k : Samples.tooSmall()) {
            Samples.refused(x -> x.answer(k), Checks.NONE);
        }
        Run y = Samples.six();
        y.answer(Integer.MIN_VALUE + 3).is(Checks.NONE);
        y.answer(-6).is(Checks.NONE);
    }

    private static void answerAboveTheLast() {
        for (int k : Samples.tooLarge(642)) {
            Samples.refused(x -> x.answer(k), Checks.NONE);
        }
        for (int k : Samples.tooLarge(6)) {
            Samples.refusedIn(Samples.six(), x -> x.answer(k), Checks.NONE);
        }
        Samples.greatest().answer(680).is(Checks.NONE);
    }

    private static void answerOfNothing() {
        for (int k = 0; k < 8; k++) {
            int wanted = k;
            Samples.refusedIn(new Run(), x -> x.answer(wanted), Checks.NONE);
        }
        for (int i = 0; i < 4; i++) {
            Run y = Samples.large();
            y.clear(i);
            Samples.refusedIn(y, x -> x.answer(0), Checks.NONE);
        }
    }

    private static void answerTakenAway() {
        Run x = Samples.six();
        x.drop(0, 6, 7);
        x.answer(5).is(Checks.NONE);
        x.answer(4).is(Samples.code(0, 7, 0, 7, 0));
    }

    private static void hasAtTheEnds() {
        Run low = Samples.lone(0, 0, 0, 0, 0);
        low.has(0).is(true);
        low.has(32767).is(false);
        Run high = Samples.lone(7, 7, 7, 7, 7);
        high.has(0).is(false);
        high.has(32767).is(true);
        new Run().has(0).is(false);
        new Run().has(32767).is(false);
    }

    private static void hasOfEveryCode(Supplier<Run> sample, int want) {
        int found = 0;
        for (int from = 0; from < 32768; from += CODES_A_RUN) {
            Run x = sample.get();
            for (int code = from; code < from + CODES_A_RUN; code++) {
                found += x.has(code).got();
            }
        }
        Checks.due("the codes that has answers true to", found, want);
    }

    private static void hasOutside(int[] wrong) {
        for (int code : wrong) {
            Samples.refused(x -> x.has(code), 0);
        }
    }

    // Each of these numbers has the low bits of an answer's code, and it alone.
    private static int[] alike(int code) {
        return new int[] {code + 32768, code + 65536, code + (1 << 20), code + (1 << 30),
            code - 32768, code - 65536, code + Integer.MIN_VALUE};
    }

    private static void hasWrapsNot() {
        for (int code : Samples.sixCodes()) {
            Run x = Samples.six();
            for (int wrong : alike(code)) {
                x.has(wrong).is(false);
            }
            x.compareAll();
        }
    }

    private static void rankAtTheEnds() {
        Run low = Samples.lone(0, 0, 0, 0, 0);
        low.rank(0).is(0);
        low.rank(32767).is(1);
        Run high = Samples.lone(7, 7, 7, 7, 7);
        high.rank(0).is(0);
        high.rank(32767).is(0);
        Samples.six().rank(32767).is(6);
        Samples.greatest().rank(0).is(0);
        Samples.greatest().rank(32767).is(680);
        new Run().rank(0).is(0);
        new Run().rank(32767).is(0);
    }

    private static void rankOfEveryCode(Supplier<Run> sample) {
        for (int from = 0; from < 32768; from += CODES_A_RUN) {
            Run x = sample.get();
            for (int code = from; code < from + CODES_A_RUN; code++) {
                x.rank(code);
            }
        }
    }

    private static void rankOfEveryAnswer() {
        for (int from = 0; from < 680; from += 340) {
            Run x = Samples.greatest();
            for (int k = from; k < from + 340; k++) {
                x.rank(x.model().answer(k)).is(k);
            }
        }
    }

    private static void rankOutside(int[] wrong) {
        for (int code : wrong) {
            Samples.refused(x -> x.rank(code), Checks.BAD_ARG);
        }
    }

    private static void rankWrapsNot() {
        for (int code : Samples.sixCodes()) {
            Run x = Samples.six();
            for (int wrong : alike(code)) {
                x.rank(wrong).is(Checks.BAD_ARG);
            }
            x.compareAll();
        }
    }
}
