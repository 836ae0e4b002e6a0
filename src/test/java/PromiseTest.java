// One method for each promise of the document; the answers that are due were worked out by hand.
public final class PromiseTest {
    private static final int BAD_ARG = -1;
    private static final int FULL = -2;
    private static final int NONE = -4;
    private static final int[] OUTSIDE_TABLES = {-1, 4, 5, 100, Integer.MIN_VALUE, Integer.MAX_VALUE};
    private static final int[] OUTSIDE_VALUES = {-1, 8, 9, 64, Integer.MIN_VALUE, Integer.MAX_VALUE};
    private static final int[] OUTSIDE_COLUMNS = {-1, 5, 6, 100, Integer.MIN_VALUE, Integer.MAX_VALUE};
    private static final int[] OUTSIDE_CODES = {-1, 32768, 32769, 65536, Integer.MIN_VALUE, Integer.MAX_VALUE};

    private static int wrong = 0;

    public static void main(String[] args) {
        constants();
        promise1NewObject();
        promise2Put();
        promise2PutInItsOrder();
        promise3Drop();
        promise4Clear();
        promise5Rows();
        promise6Count();
        promise7Answer();
        promise8Has();
        promise9Rank();
        promise10Useful();
        promise11Weight();
        promise12Gain();
        promise13Values();
        promise14With();
        promise15Ends();
        promise16Sum();
        questionsChangeNothing();
        System.out.println(wrong == 0 ? "all answers are as due" : wrong + " answers are not as due");
        if (wrong != 0) {
            System.exit(1);
        }
    }

    private static void due(String call, int got, int want) {
        if (got != want) {
            wrong++;
            System.out.println(call + " answered " + got + ", due is " + want);
        }
    }

    private static void due(String call, boolean got, boolean want) {
        due(call, got ? 1 : 0, want ? 1 : 0);
    }

    private static int code(int p, int q, int r, int s, int t) {
        return p + 8 * q + 64 * r + 512 * s + 4096 * t;
    }

    private static void fill(AcyclicJoins x, int i, int... pairs) {
        for (int k = 0; k < pairs.length; k += 2) {
            due("filling put(" + i + ", " + pairs[k] + ", " + pairs[k + 1] + ")",
                    x.put(i, pairs[k], pairs[k + 1]), x.rows(i));
        }
    }

    // Rows (row, 0) to (row, 7) and then two more: ten in all.
    private static void fillUp(AcyclicJoins x, int i, int row) {
        for (int b = 0; b < 8; b++) {
            fill(x, i, row, b);
        }
        fill(x, i, (row + 1) % 8, 0, (row + 1) % 8, 1);
    }

    /*
     * Six answers, in their order (p, q, r, s, t):
     *   0: 0 1 2 3 5    1: 0 1 2 3 6    2: 0 1 2 4 5    3: 0 1 2 4 6
     *   4: 0 7 0 7 0    5: 6 7 0 7 0
     * and a row in each table that is in no answer.
     */
    private static AcyclicJoins six() {
        AcyclicJoins x = new AcyclicJoins();
        fill(x, 0, 6, 7, 0, 7, 0, 1, 3, 3);
        fill(x, 1, 7, 0, 1, 2, 4, 4);
        fill(x, 2, 2, 4, 2, 3, 0, 7, 5, 5);
        fill(x, 3, 1, 6, 7, 0, 1, 5, 3, 1);
        return x;
    }

    private static int[] sixCodes() {
        return new int[] {
            code(0, 1, 2, 3, 5), code(0, 1, 2, 3, 6), code(0, 1, 2, 4, 5), code(0, 1, 2, 4, 6),
            code(0, 7, 0, 7, 0), code(6, 7, 0, 7, 0)};
    }

    // 642 answers: (p, 0, r, s, t) with 8 p, 8 t and 10 rows (r, s), and (0, 1, 0, s, 0) with two s.
    private static AcyclicJoins large() {
        AcyclicJoins x = new AcyclicJoins();
        for (int v = 0; v < 8; v++) {
            fill(x, 0, v, 0);
            fill(x, 1, 0, v);
            fill(x, 2, v, 0);
            fill(x, 3, 0, v);
        }
        fill(x, 0, 0, 1, 0, 2);
        fill(x, 1, 1, 0, 3, 0);
        fill(x, 2, 0, 7, 1, 7);
        fill(x, 3, 1, 0, 4, 4);
        return x;
    }

    private static void constants() {
        due("BAD_ARG", AcyclicJoins.BAD_ARG, BAD_ARG);
        due("FULL", AcyclicJoins.FULL, FULL);
        due("NONE", AcyclicJoins.NONE, NONE);
    }

    private static void promise1NewObject() {
        AcyclicJoins used = six();
        AcyclicJoins x = new AcyclicJoins();
        for (int i = 0; i < 4; i++) {
            due("1: rows(" + i + ")", x.rows(i), 0);
            due("1: useful(" + i + ")", x.useful(i), 0);
            for (int a = 0; a < 8; a++) {
                for (int b = 0; b < 8; b++) {
                    due("1: drop(" + i + ", " + a + ", " + b + ")", x.drop(i, a, b), NONE);
                }
            }
        }
        due("1: count()", x.count(), 0);
        due("1: answer(0)", x.answer(0), NONE);
        due("1: ends()", x.ends(), 0);
        due("1: sum()", x.sum(), 0);
        due("1: count() of another object", used.count(), 6);
    }

    private static void promise2Put() {
        for (int i = 0; i < 4; i++) {
            AcyclicJoins x = new AcyclicJoins();
            due("2: put of (0, 0)", x.put(i, 0, 0), 1);
            due("2: put of (7, 7)", x.put(i, 7, 7), 2);
            due("2: put of (2, 5)", x.put(i, 2, 5), 3);
            due("2: put of (5, 2), not the same row", x.put(i, 5, 2), 4);
            due("2: put of (0, 0) again", x.put(i, 0, 0), NONE);
            due("2: put of (5, 2) again", x.put(i, 5, 2), NONE);
            for (int other = 0; other < 4; other++) {
                due("2: rows(" + other + ") after put into " + i, x.rows(other), other == i ? 4 : 0);
            }
            for (int bad : OUTSIDE_VALUES) {
                due("2: put(" + i + ", " + bad + ", 0)", x.put(i, bad, 0), BAD_ARG);
                due("2: put(" + i + ", 0, " + bad + ")", x.put(i, 0, bad), BAD_ARG);
            }
            for (int bad : OUTSIDE_TABLES) {
                due("2: put(" + bad + ", 1, 1)", x.put(bad, 1, 1), BAD_ARG);
            }
            for (int other = 0; other < 4; other++) {
                due("2: rows(" + other + ") after refusals", x.rows(other), other == i ? 4 : 0);
            }
        }
    }

    private static void promise2PutInItsOrder() {
        for (int i = 0; i < 4; i++) {
            AcyclicJoins x = new AcyclicJoins();
            fillUp(x, i, 3);
            due("2: rows of a full table", x.rows(i), 10);
            due("2: put of an eleventh row", x.put(i, 7, 7), FULL);
            due("2: put of a row that is there, table full", x.put(i, 3, 7), NONE);
            due("2: put of a wrong row, table full", x.put(i, 8, 7), BAD_ARG);
            due("2: put of a wrong row, table full", x.put(i, 7, -1), BAD_ARG);
            due("2: rows of a full table after refusals", x.rows(i), 10);
            due("2: the refused row is not there", x.drop(i, 7, 7), NONE);
            due("2: put into another table", x.put((i + 1) % 4, 7, 7), 1);
            due("2: drop from a full table", x.drop(i, 3, 7), 9);
            due("2: put once there is room", x.put(i, 7, 7), 10);
            due("2: put when full again", x.put(i, 3, 7), FULL);
        }
    }

    private static void promise3Drop() {
        for (int i = 0; i < 4; i++) {
            AcyclicJoins x = new AcyclicJoins();
            due("3: drop from an empty table", x.drop(i, 0, 0), NONE);
            fill(x, i, 0, 0, 7, 7, 2, 5);
            due("3: drop of a row that is in another table", x.drop((i + 1) % 4, 7, 7), NONE);
            due("3: drop of (5, 2), not there", x.drop(i, 5, 2), NONE);
            for (int bad : OUTSIDE_VALUES) {
                due("3: drop(" + i + ", " + bad + ", 0)", x.drop(i, bad, 0), BAD_ARG);
                due("3: drop(" + i + ", 0, " + bad + ")", x.drop(i, 0, bad), BAD_ARG);
            }
            for (int bad : OUTSIDE_TABLES) {
                due("3: drop(" + bad + ", 0, 0)", x.drop(bad, 0, 0), BAD_ARG);
            }
            due("3: rows after refusals", x.rows(i), 3);
            due("3: drop of (7, 7)", x.drop(i, 7, 7), 2);
            due("3: drop of (7, 7) again", x.drop(i, 7, 7), NONE);
            due("3: drop of (0, 0)", x.drop(i, 0, 0), 1);
            due("3: drop of (2, 5)", x.drop(i, 2, 5), 0);
            due("3: put after drop", x.put(i, 7, 7), 1);
        }
        AcyclicJoins x = six();
        due("3: drop(2, 2, 3)", x.drop(2, 2, 3), 3);
        due("3: count() after drop", x.count(), 4);
    }

    private static void promise4Clear() {
        for (int i = 0; i < 4; i++) {
            AcyclicJoins x = six();
            int[] sizes = {4, 3, 4, 4};
            for (int bad : OUTSIDE_TABLES) {
                due("4: clear(" + bad + ")", x.clear(bad), BAD_ARG);
            }
            due("4: count() after refusals", x.count(), 6);
            due("4: clear(" + i + ")", x.clear(i), sizes[i]);
            for (int other = 0; other < 4; other++) {
                due("4: rows(" + other + ") after clear(" + i + ")", x.rows(other), other == i ? 0 : sizes[other]);
            }
            due("4: clear again", x.clear(i), 0);
            due("4: count() after clear", x.count(), 0);
            fillUp(x, i, 7);
            due("4: clear of a full table", x.clear(i), 10);
            due("4: put after clear", x.put(i, 7, 7), 1);
        }
    }

    private static void promise5Rows() {
        AcyclicJoins x = six();
        due("5: rows(0)", x.rows(0), 4);
        due("5: rows(1)", x.rows(1), 3);
        due("5: rows(2)", x.rows(2), 4);
        due("5: rows(3)", x.rows(3), 4);
        for (int bad : OUTSIDE_TABLES) {
            due("5: rows(" + bad + ")", x.rows(bad), BAD_ARG);
        }
    }

    private static void promise6Count() {
        due("6: count()", six().count(), 6);
        due("6: count() of the large one", large().count(), 642);
        AcyclicJoins x = new AcyclicJoins();
        fill(x, 0, 1, 2);
        fill(x, 1, 2, 3);
        fill(x, 2, 3, 4);
        due("6: count() without table 3", x.count(), 0);
        fill(x, 3, 3, 5, 1, 5, 4, 5);
        due("6: count() where table 3 has no such q", x.count(), 0);
        fill(x, 3, 2, 5);
        due("6: count() of the first answer", x.count(), 1);
        due("6: drop(1, 2, 3)", x.drop(1, 2, 3), 0);
        fill(x, 1, 3, 2);
        due("6: count() where table 1 is turned round", x.count(), 0);
    }

    private static void promise7Answer() {
        AcyclicJoins x = six();
        int[] codes = sixCodes();
        for (int k = 0; k < codes.length; k++) {
            due("7: answer(" + k + ")", x.answer(k), codes[k]);
        }
        for (int k : new int[] {6, 7, 1000, Integer.MAX_VALUE, -1, -2, Integer.MIN_VALUE}) {
            due("7: answer(" + k + ")", x.answer(k), NONE);
        }
        AcyclicJoins y = large();
        due("7: large answer(0)", y.answer(0), code(0, 0, 0, 0, 0));
        due("7: large answer(7)", y.answer(7), code(0, 0, 0, 0, 7));
        due("7: large answer(8)", y.answer(8), code(0, 0, 0, 7, 0));
        due("7: large answer(79)", y.answer(79), code(0, 0, 7, 0, 7));
        due("7: large answer(80)", y.answer(80), code(0, 1, 0, 0, 0));
        due("7: large answer(81)", y.answer(81), code(0, 1, 0, 7, 0));
        due("7: large answer(82)", y.answer(82), code(1, 0, 0, 0, 0));
        due("7: large answer(641)", y.answer(641), code(7, 0, 7, 0, 7));
        due("7: large answer(642)", y.answer(642), NONE);
    }

    private static void promise8Has() {
        AcyclicJoins x = six();
        for (int code : sixCodes()) {
            due("8: has(" + code + ")", x.has(code), true);
        }
        due("8: has, table 0 lacks the row", x.has(code(1, 1, 2, 3, 5)), false);
        due("8: has, table 1 lacks the row", x.has(code(0, 1, 0, 7, 5)), false);
        due("8: has, table 2 lacks the row", x.has(code(0, 1, 2, 5, 5)), false);
        due("8: has, table 3 lacks the row", x.has(code(0, 1, 2, 3, 7)), false);
        int found = 0;
        for (int code = 0; code < 32768; code++) {
            // A new object each time that the 512 calls of one would not do.
            if (code % 256 == 0) {
                x = six();
            }
            found += x.has(code) ? 1 : 0;
        }
        due("8: codes that has answers true to", found, 6);
        AcyclicJoins corners = new AcyclicJoins();
        for (int i = 0; i < 4; i++) {
            fill(corners, i, 0, 0, 7, 7);
        }
        due("8: has(0)", corners.has(0), true);
        due("8: has(32767)", corners.has(32767), true);
        for (int bad : OUTSIDE_CODES) {
            due("8: has(" + bad + ")", corners.has(bad), false);
        }
    }

    private static void promise9Rank() {
        AcyclicJoins x = six();
        int[] codes = sixCodes();
        for (int k = 0; k < codes.length; k++) {
            due("9: rank(" + codes[k] + ")", x.rank(codes[k]), k);
        }
        due("9: rank(0)", x.rank(0), 0);
        due("9: rank(32767)", x.rank(32767), 6);
        due("9: rank, t between", x.rank(code(0, 1, 2, 3, 7)), 2);
        due("9: rank, s between", x.rank(code(0, 1, 2, 5, 0)), 4);
        due("9: rank, s below", x.rank(code(0, 1, 2, 2, 7)), 0);
        due("9: rank, r above", x.rank(code(0, 1, 3, 0, 0)), 4);
        due("9: rank, r below", x.rank(code(0, 1, 1, 7, 7)), 0);
        due("9: rank, q between", x.rank(code(0, 2, 0, 0, 0)), 4);
        due("9: rank, q below", x.rank(code(0, 0, 7, 7, 7)), 0);
        due("9: rank, p between", x.rank(code(1, 0, 0, 0, 0)), 5);
        due("9: rank, p above", x.rank(code(7, 0, 0, 0, 0)), 6);
        due("9: rank of a lone start, its end elsewhere", x.rank(code(3, 3, 7, 7, 7)), 5);
        for (int bad : OUTSIDE_CODES) {
            due("9: rank(" + bad + ")", x.rank(bad), BAD_ARG);
        }
        due("9: rank of the last in the large one", large().rank(code(7, 0, 7, 0, 7)), 641);
        due("9: rank in no answers", new AcyclicJoins().rank(32767), 0);
    }

    private static void promise10Useful() {
        AcyclicJoins x = six();
        due("10: useful(0)", x.useful(0), 3);
        due("10: useful(1)", x.useful(1), 2);
        due("10: useful(2)", x.useful(2), 3);
        due("10: useful(3)", x.useful(3), 3);
        for (int bad : OUTSIDE_TABLES) {
            due("10: useful(" + bad + ")", x.useful(bad), BAD_ARG);
        }
        due("10: large useful(0)", large().useful(0), 9);
        due("10: large useful(1)", large().useful(1), 9);
        due("10: large useful(2)", large().useful(2), 10);
        due("10: large useful(3)", large().useful(3), 9);
        x.clear(3);
        for (int i = 0; i < 4; i++) {
            due("10: useful(" + i + ") without answers", x.useful(i), 0);
        }
    }

    private static void promise11Weight() {
        AcyclicJoins x = six();
        due("11: weight(0, 0, 1)", x.weight(0, 0, 1), 4);
        due("11: weight(0, 6, 7)", x.weight(0, 6, 7), 1);
        due("11: weight(1, 1, 2)", x.weight(1, 1, 2), 4);
        due("11: weight(1, 7, 0)", x.weight(1, 7, 0), 2);
        due("11: weight(2, 2, 3)", x.weight(2, 2, 3), 2);
        due("11: weight(2, 0, 7)", x.weight(2, 0, 7), 2);
        due("11: weight(3, 1, 6)", x.weight(3, 1, 6), 2);
        due("11: weight(3, 7, 0)", x.weight(3, 7, 0), 2);
        due("11: weight of a row in no answer", x.weight(0, 3, 3), 0);
        due("11: weight of a row in no answer", x.weight(1, 4, 4), 0);
        due("11: weight of a row in no answer", x.weight(2, 5, 5), 0);
        due("11: weight of a row in no answer", x.weight(3, 3, 1), 0);
        due("11: weight of a row that is not there", x.weight(0, 1, 1), 0);
        due("11: weight of a row that is not there", x.weight(1, 1, 0), 0);
        due("11: weight of a row that is not there", x.weight(2, 2, 5), 0);
        due("11: weight of a row that is not there", x.weight(3, 1, 7), 0);
        for (int bad : OUTSIDE_TABLES) {
            due("11: weight(" + bad + ", 0, 1)", x.weight(bad, 0, 1), 0);
        }
        for (int i = 0; i < 4; i++) {
            for (int bad : OUTSIDE_VALUES) {
                due("11: weight(" + i + ", " + bad + ", 1)", x.weight(i, bad, 1), 0);
                due("11: weight(" + i + ", 1, " + bad + ")", x.weight(i, 1, bad), 0);
            }
        }
    }

    private static void promise12Gain() {
        AcyclicJoins x = six();
        due("12: gain(0, 5, 1)", x.gain(0, 5, 1), 4);
        due("12: gain(1, 1, 0)", x.gain(1, 1, 0), 2);
        due("12: gain(1, 7, 2)", x.gain(1, 7, 2), 4);
        due("12: gain(2, 0, 0)", x.gain(2, 0, 0), 2);
        due("12: gain(3, 7, 7)", x.gain(3, 7, 7), 2);
        due("12: gain(3, 1, 7)", x.gain(3, 1, 7), 2);
        due("12: gain of a row that joins nothing", x.gain(2, 1, 1), 0);
        due("12: gain of a row that is there", x.gain(0, 0, 1), 0);
        due("12: gain of a row that is there", x.gain(3, 1, 6), 0);
        due("12: count() after gain", x.count(), 6);
        due("12: rows(0) after gain", x.rows(0), 4);
        for (int bad : OUTSIDE_TABLES) {
            due("12: gain(" + bad + ", 0, 1)", x.gain(bad, 0, 1), BAD_ARG);
        }
        for (int i = 0; i < 4; i++) {
            for (int bad : OUTSIDE_VALUES) {
                due("12: gain(" + i + ", " + bad + ", 1)", x.gain(i, bad, 1), BAD_ARG);
                due("12: gain(" + i + ", 1, " + bad + ")", x.gain(i, 1, bad), BAD_ARG);
            }
        }
        AcyclicJoins y = large();
        due("12: gain in full table 0", y.gain(0, 7, 1), 2);
        due("12: gain in full table 1", y.gain(1, 1, 7), 1);
        due("12: gain in full table 2", y.gain(2, 0, 5), 65);
        due("12: gain in full table 3", y.gain(3, 1, 5), 2);
        due("12: gain of a row there, table full", y.gain(3, 0, 5), 0);
        for (int i = 0; i < 4; i++) {
            due("12: rows(" + i + ") after gain in a full table", y.rows(i), 10);
        }
    }

    private static void promise13Values() {
        AcyclicJoins x = six();
        due("13: values(0)", x.values(0), 2);
        due("13: values(1)", x.values(1), 2);
        due("13: values(2)", x.values(2), 2);
        due("13: values(3)", x.values(3), 3);
        due("13: values(4)", x.values(4), 3);
        for (int bad : OUTSIDE_COLUMNS) {
            due("13: values(" + bad + ")", x.values(bad), BAD_ARG);
        }
        int[] largeDue = {8, 2, 8, 2, 8};
        for (int c = 0; c < 5; c++) {
            due("13: large values(" + c + ")", large().values(c), largeDue[c]);
            due("13: values(" + c + ") without answers", new AcyclicJoins().values(c), 0);
        }
    }

    private static void promise14With() {
        AcyclicJoins x = six();
        int[][] want = {
            {5, 0, 0, 0, 0, 0, 1, 0},
            {0, 4, 0, 0, 0, 0, 0, 2},
            {2, 0, 4, 0, 0, 0, 0, 0},
            {0, 0, 0, 2, 2, 0, 0, 2},
            {2, 0, 0, 0, 0, 2, 2, 0}};
        for (int c = 0; c < 5; c++) {
            for (int v = 0; v < 8; v++) {
                due("14: with(" + c + ", " + v + ")", x.with(c, v), want[c][v]);
            }
            for (int bad : OUTSIDE_VALUES) {
                due("14: with(" + c + ", " + bad + ")", x.with(c, bad), BAD_ARG);
            }
        }
        for (int bad : OUTSIDE_COLUMNS) {
            due("14: with(" + bad + ", 0)", x.with(bad, 0), BAD_ARG);
        }
        due("14: large with(0, 0)", large().with(0, 0), 82);
        due("14: large with(3, 7)", large().with(3, 7), 129);
    }

    private static void promise15Ends() {
        due("15: ends()", six().ends(), 4);
        due("15: large ends()", large().ends(), 16);
        AcyclicJoins x = new AcyclicJoins();
        fill(x, 0, 0, 0, 0, 1);
        fill(x, 1, 0, 0, 1, 1, 0, 1);
        fill(x, 2, 0, 6, 1, 6);
        fill(x, 3, 0, 2, 1, 3, 1, 4);
        due("15: count() of many ways between two ends", x.count(), 4);
        due("15: ends() of many ways between two ends", x.ends(), 1);
        x.clear(3);
        due("15: ends() without answers", x.ends(), 0);
    }

    private static void promise16Sum() {
        // (3 + 5) + (3 + 6) + (4 + 5) + (4 + 6) + (7 + 0) + (7 + 0)
        due("16: sum()", six().sum(), 50);
        // t: 8 * 10 * 28; s: 7 in 8 * 8 * 2 answers with q = 0 and in one with q = 1
        due("16: large sum()", large().sum(), 2240 + 896 + 7);
        due("16: sum() without answers", new AcyclicJoins().sum(), 0);
    }

    private static void questionsChangeNothing() {
        AcyclicJoins x = six();
        for (int c = -1; c < 9; c++) {
            x.rows(c);
            x.answer(c);
            x.useful(c);
            x.values(c);
            x.has(c);
            x.rank(c);
            for (int v = -1; v < 9; v++) {
                x.with(c, v);
                x.weight(c % 4, c, v);
                x.gain(1, c, v);
            }
        }
        x.count();
        x.ends();
        x.sum();
        int[] sizes = {4, 3, 4, 4};
        for (int i = 0; i < 4; i++) {
            due("rows(" + i + ") after questions", x.rows(i), sizes[i]);
        }
        int[] codes = sixCodes();
        for (int k = 0; k < codes.length; k++) {
            due("answer(" + k + ") after questions", x.answer(k), codes[k]);
        }
    }
}
