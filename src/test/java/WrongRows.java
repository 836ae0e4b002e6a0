/** The arguments that name no row; each is refused, whatever the tables hold. */
final class WrongRows {
    static final Call PUT = new Call(Run::put, Checks.BAD_ARG);
    static final Call DROP = new Call(Run::drop, Checks.BAD_ARG);
    static final Call GAIN = new Call(Run::gain, Checks.BAD_ARG);
    static final Call WEIGHT = new Call(Run::weight, 0);

    private WrongRows() {
    }

    interface Method {
        Run.Answer on(Run x, int i, int a, int b);
    }

    /** A method that is given a row, and what it answers where there can be no such row. */
    record Call(Method method, int refusal) {
        void refused(int i, int a, int b) {
            Samples.refused(x -> method.on(x, i, a, b), refusal);
        }
    }

    /** One test for each way in which the arguments can be wrong. */
    static void eachWay(String words, Call call) {
        Checks.sentence(words + ", i too small", () -> noTable(call, Samples.tooSmall()));
        Checks.sentence(words + ", i too large", () -> noTable(call, Samples.tooLarge(4)));
        Checks.sentence(words + ", a too small", () -> noFirst(call, Samples.tooSmall()));
        Checks.sentence(words + ", a too large", () -> noFirst(call, Samples.tooLarge(8)));
        Checks.sentence(words + ", b too small", () -> noSecond(call, Samples.tooSmall()));
        Checks.sentence(words + ", b too large", () -> noSecond(call, Samples.tooLarge(8)));
        Checks.sentence(words + ", all wrong", () -> allWrong(call));
        Checks.sentence(words + ", not taken for another row", () -> alikeIsWrong(call));
    }

    private static void noTable(Call call, int[] wrong) {
        for (int i : wrong) {
            call.refused(i, 0, 0);
            call.refused(i, 7, 7);
        }
    }

    private static void noFirst(Call call, int[] wrong) {
        for (int a : wrong) {
            for (int i = 0; i < 4; i++) {
                call.refused(i, a, 0);
                call.refused(i, a, 7);
            }
        }
    }

    private static void noSecond(Call call, int[] wrong) {
        for (int b : wrong) {
            for (int i = 0; i < 4; i++) {
                call.refused(i, 0, b);
                call.refused(i, 7, b);
            }
        }
    }

    private static void allWrong(Call call) {
        call.refused(-1, -1, -1);
        call.refused(4, 8, 8);
        call.refused(-1, 8, 8);
        call.refused(4, -1, -1);
        call.refused(0, -1, 8);
        call.refused(3, 8, -1);
    }

    private static void alikeIsWrong(Call call) {
        Samples.forEachRow((i, a, b) -> {
            Run x = Samples.large();
            for (int[] other : Samples.alike(i, a, b)) {
                call.method().on(x, other[0], other[1], other[2]).is(call.refusal());
            }
            x.compareAll();
        });
    }
}
