/**
 * A new object and its model, given the same calls. Every answer is compared with
 * the model's, and a test that calls one object more often than is promised fails.
 */
final class Run {
    static final int MOST_CALLS = 512;

    private final AcyclicJoins object = new AcyclicJoins();
    private final Model model = new Model();
    private int calls = 0;

    /** What the object answered, for a test that knows the answer without the model. */
    record Answer(String call, int got) {
        void is(int want) {
            Checks.due(call, got, want);
        }

        void is(boolean want) {
            is(want ? 1 : 0);
        }
    }

    private Answer answered(String call, int got, int want) {
        calls++;
        Checks.holds("a test keeps to " + MOST_CALLS + " calls", calls <= MOST_CALLS);
        Checks.due(call, got, want);
        return new Answer(call, got);
    }

    private static String row(int i, int a, int b) {
        return "(" + i + ", " + a + ", " + b + ")";
    }

    Model model() {
        return model;
    }

    Answer put(int i, int a, int b) {
        return answered("put" + row(i, a, b), object.put(i, a, b), model.put(i, a, b));
    }

    Answer drop(int i, int a, int b) {
        return answered("drop" + row(i, a, b), object.drop(i, a, b), model.drop(i, a, b));
    }

    Answer clear(int i) {
        return answered("clear(" + i + ")", object.clear(i), model.clear(i));
    }

    Answer rows(int i) {
        return answered("rows(" + i + ")", object.rows(i), model.rows(i));
    }

    Answer count() {
        return answered("count()", object.count(), model.count());
    }

    Answer answer(int k) {
        return answered("answer(" + k + ")", object.answer(k), model.answer(k));
    }

    Answer has(int code) {
        return answered("has(" + code + ")", object.has(code) ? 1 : 0, model.has(code) ? 1 : 0);
    }

    Answer rank(int code) {
        return answered("rank(" + code + ")", object.rank(code), model.rank(code));
    }

    Answer useful(int i) {
        return answered("useful(" + i + ")", object.useful(i), model.useful(i));
    }

    Answer weight(int i, int a, int b) {
        return answered("weight" + row(i, a, b), object.weight(i, a, b), model.weight(i, a, b));
    }

    Answer gain(int i, int a, int b) {
        return answered("gain" + row(i, a, b), object.gain(i, a, b), model.gain(i, a, b));
    }

    Answer values(int c) {
        return answered("values(" + c + ")", object.values(c), model.values(c));
    }

    Answer with(int c, int v) {
        return answered("with(" + c + ", " + v + ")", object.with(c, v), model.with(c, v));
    }

    Answer ends() {
        return answered("ends()", object.ends(), model.ends());
    }

    Answer sum() {
        return answered("sum()", object.sum(), model.sum());
    }

    /** Puts rows that are all taken: a, b, a, b and so on. */
    Run fill(int i, int... pairs) {
        for (int k = 0; k < pairs.length; k += 2) {
            put(i, pairs[k], pairs[k + 1]).is(model.rows(i));
        }
        return this;
    }

    /** Asks for the count until so many calls have been made. */
    void idleUpTo(int madeCalls) {
        while (calls < madeCalls) {
            count();
        }
    }

    /**
     * Compares all that can be asked with the model, and then every row, by taking
     * it out. It takes 323 calls, and the run is over with it.
     */
    void compareAll() {
        for (int i = 0; i < 4; i++) {
            rows(i);
            useful(i);
        }
        for (int c = 0; c < 5; c++) {
            values(c);
            for (int v = 0; v < 8; v++) {
                with(c, v);
            }
        }
        for (int k = 0; k < 8; k++) {
            answer(k);
        }
        answer(model.count() - 1);
        answer(model.count());
        rank(32767);
        count();
        ends();
        sum();
        for (int i = 0; i < 4; i++) {
            for (int a = 0; a < 8; a++) {
                for (int b = 0; b < 8; b++) {
                    drop(i, a, b);
                }
            }
        }
    }
}
