// Runs of calls, the same ones each time, compared with a model that lists every answer.
public final class ModelTest {
    private static final int RUNS = 400;

    private static long seed;
    private static int most = 0;

    public static void main(String[] args) {
        for (int run = 0; run < RUNS; run++) {
            int number = run;
            Checks.sentence("run " + run, () -> play(number));
        }
        Checks.holds("the runs have many answers at once, not only " + most, most >= 100);
        Checks.end();
    }

    private static void play(int number) {
        seed = 7919L * number + 17;
        // Few different values make many answers, all eight make few.
        int spread = 1 + number % 8;
        Run x = new Run();
        for (int n = 0; n < Run.MOST_CALLS; n++) {
            call(x, spread);
            most = Math.max(most, x.model().count());
        }
    }

    private static void call(Run x, int spread) {
        int i = nearly(4);
        int a = value(spread);
        int b = value(spread);
        int c = nearly(5);
        switch (pick(24)) {
            case 0, 1, 2, 3, 4, 5, 6 -> x.put(i, a, b);
            case 7, 8 -> x.drop(i, a, b);
            case 9 -> clearSeldom(x, i);
            case 10 -> x.rows(i);
            case 11 -> x.count();
            case 12, 13 -> x.answer(pick(x.model().count() + 3) - 1);
            case 14 -> x.has(code(x.model()));
            case 15, 16 -> x.rank(code(x.model()));
            case 17 -> x.useful(i);
            case 18 -> x.weight(i, a, b);
            case 19 -> x.gain(i, a, b);
            case 20 -> x.values(c);
            case 21 -> x.with(c, a);
            case 22 -> x.ends();
            default -> x.sum();
        }
    }

    // A run that clears all the time has no answers.
    private static void clearSeldom(Run x, int i) {
        if (pick(6) == 0) {
            x.clear(i);
        } else {
            x.rows(i);
        }
    }

    private static int pick(int bound) {
        seed = seed * 6364136223846793005L + 1442695040888963407L;
        return (int) ((seed >>> 33) % bound);
    }

    /** Mostly from 0 to below the bound, now and then just outside. */
    private static int nearly(int bound) {
        return pick(12) == 0 ? pick(bound + 2) - 1 : pick(bound);
    }

    private static int value(int spread) {
        return pick(16) == 0 ? pick(10) - 1 : pick(spread);
    }

    /** An answer's code, one next to it, or any. */
    private static int code(Model m) {
        if (m.count() == 0 || pick(4) == 0) {
            return pick(33000) - 100;
        }
        int code = m.answer(pick(m.count()));
        return pick(2) == 0 ? code : code ^ 1 << pick(15);
    }
}
