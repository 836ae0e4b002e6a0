/** Counts the answers that are not as due, and tells each with the sentence that it breaks. */
final class Checks {
    static final int BAD_ARG = -1;
    static final int FULL = -2;
    static final int NONE = -4;

    private static final int MOST_SHOWN = 5;
    // Far more than a test takes on a slow machine.
    private static final long MOST_MILLIS = 300_000;

    private static volatile String sentence = "";
    private static int shown = 0;
    private static int wrong = 0;

    static {
        Thread watch = new Thread(Checks::endTooLong);
        watch.setDaemon(true);
        watch.start();
    }

    private Checks() {
    }

    // A call that never ends is a fault to be told, not a test that hangs.
    private static void endTooLong() {
        try {
            Thread.sleep(MOST_MILLIS);
        } catch (InterruptedException e) {
            return;
        }
        System.out.println(sentence + " | does not end");
        Runtime.getRuntime().halt(1);
    }

    /** Runs the test of one sentence; a call that throws is one wrong answer, and the next test still runs. */
    static void sentence(String words, Runnable test) {
        sentence = words;
        shown = 0;
        try {
            test.run();
        } catch (RuntimeException | StackOverflowError e) {
            fail("threw " + e);
        }
    }

    static void due(String call, int got, int want) {
        if (got != want) {
            fail(call + " answered " + got + ", due is " + want);
        }
    }

    static void holds(String what, boolean so) {
        if (!so) {
            fail("not so: " + what);
        }
    }

    static void fail(String what) {
        wrong++;
        shown++;
        // Enough to see the fault; no sentence is left out because another has many faults.
        if (shown <= MOST_SHOWN) {
            System.out.println(sentence + " | " + what);
        }
    }

    static void end() {
        System.out.println(wrong == 0 ? "all is as due" : wrong + " things are not as due");
        if (wrong != 0) {
            System.exit(1);
        }
    }
}
