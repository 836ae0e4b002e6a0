import java.util.ArrayList;
import java.util.HashSet;
import java.util.List;
import java.util.Set;

// Runs of calls, the same ones each time, compared with a model that lists every answer.
public final class ModelTest {
    private static final int RUNS = 400;
    private static final int CALLS = 512;
    private static final int MOST_SHOWN = 20;

    private static int wrong = 0;
    private static long seed;

    public static void main(String[] args) {
        int most = 0;
        for (int run = 0; run < RUNS; run++) {
            most = Math.max(most, play(run));
        }
        System.out.println(wrong == 0 ? "all answers are as due" : wrong + " answers are not as due");
        if (most < 100) {
            wrong++;
            System.out.println("the runs are too thin: at most " + most + " answers at once");
        }
        if (wrong != 0) {
            System.exit(1);
        }
    }

    /** Plays one run and tells the most answers that there were at once. */
    private static int play(int run) {
        seed = 7919L * run + 17;
        // Few different values make many answers, all eight make few.
        int spread = 1 + run % 8;
        AcyclicJoins x = new AcyclicJoins();
        Model m = new Model();
        int most = 0;
        for (int n = 0; n < CALLS; n++) {
            call(run, x, m, spread);
            most = Math.max(most, m.answers.size());
        }
        return most;
    }

    private static void call(int run, AcyclicJoins x, Model m, int spread) {
        int kind = pick(24);
        int i = nearly(4);
        int a = value(spread);
        int b = value(spread);
        int c = nearly(5);
        String row = "(" + i + ", " + a + ", " + b + ")";
        switch (kind) {
            case 0: case 1: case 2: case 3: case 4: case 5: case 6:
                due(run, "put" + row, x.put(i, a, b), m.put(i, a, b));
                break;
            case 7: case 8:
                due(run, "drop" + row, x.drop(i, a, b), m.drop(i, a, b));
                break;
            case 9:
                // Seldom, since a run that clears all the time has no answers.
                if (pick(6) == 0) {
                    due(run, "clear(" + i + ")", x.clear(i), m.clear(i));
                }
                break;
            case 10:
                due(run, "rows(" + i + ")", x.rows(i), m.rows(i));
                break;
            case 11:
                due(run, "count()", x.count(), m.answers.size());
                break;
            case 12: case 13:
                int k = pick(m.answers.size() + 3) - 1;
                due(run, "answer(" + k + ")", x.answer(k), m.answer(k));
                break;
            case 14:
                int code = code(m);
                due(run, "has(" + code + ")", x.has(code) ? 1 : 0, m.has(code) ? 1 : 0);
                break;
            case 15: case 16:
                int other = code(m);
                due(run, "rank(" + other + ")", x.rank(other), m.rank(other));
                break;
            case 17:
                due(run, "useful(" + i + ")", x.useful(i), m.useful(i));
                break;
            case 18:
                due(run, "weight" + row, x.weight(i, a, b), m.weight(i, a, b));
                break;
            case 19:
                due(run, "gain" + row, x.gain(i, a, b), m.gain(i, a, b));
                break;
            case 20:
                due(run, "values(" + c + ")", x.values(c), m.values(c));
                break;
            case 21:
                due(run, "with(" + c + ", " + a + ")", x.with(c, a), m.with(c, a));
                break;
            case 22:
                due(run, "ends()", x.ends(), m.ends());
                break;
            default:
                due(run, "sum()", x.sum(), m.sum());
                break;
        }
    }

    private static void due(int run, String call, int got, int want) {
        if (got != want) {
            wrong++;
            if (wrong <= MOST_SHOWN) {
                System.out.println("run " + run + ": " + call + " answered " + got + ", due is " + want);
            }
        }
    }

    private static int pick(int bound) {
        seed = seed * 6364136223846793005L + 1442695040888963407L;
        return (int) ((seed >>> 33) % bound);
    }

    /** Mostly from 0 to below the bound, now and then just outside. */
    private static int nearly(int bound) {
        return pick(12) == 0 ? pick(bound + 2) - 1 : pick(bound);
    }

    private static int value(int spread) {
        return pick(16) == 0 ? pick(10) - 1 : pick(spread);
    }

    /** An answer's code, one next to it, or any. */
    private static int code(Model m) {
        int size = m.answers.size();
        if (size == 0 || pick(4) == 0) {
            return pick(33000) - 100;
        }
        int code = m.answer(pick(size));
        return pick(2) == 0 ? code : code ^ 1 << pick(15);
    }

    /** The tables as they are told, and all answers listed in their order after each change. */
    private static final class Model {
        final boolean[][][] rows = new boolean[4][8][8];
        List<int[]> answers = new ArrayList<>();

        static boolean bad(int i, int a, int b) {
            return i < 0 || i > 3 || a < 0 || a > 7 || b < 0 || b > 7;
        }

        List<int[]> list() {
            List<int[]> found = new ArrayList<>();
            for (int place = 0; place < 32768; place++) {
                int p = place / 4096;
                int q = place / 512 % 8;
                if (!rows[0][p][q]) {
                    place += 511;
                    continue;
                }
                int r = place / 64 % 8;
                int s = place / 8 % 8;
                int t = place % 8;
                if (rows[1][q][r] && rows[2][r][s] && rows[3][q][t]) {
                    found.add(new int[] {p, q, r, s, t});
                }
            }
            return found;
        }

        int put(int i, int a, int b) {
            if (bad(i, a, b)) {
                return -1;
            }
            if (rows[i][a][b]) {
                return -4;
            }
            if (rows(i) == 10) {
                return -2;
            }
            rows[i][a][b] = true;
            answers = list();
            return rows(i);
        }

        int drop(int i, int a, int b) {
            if (bad(i, a, b)) {
                return -1;
            }
            if (!rows[i][a][b]) {
                return -4;
            }
            rows[i][a][b] = false;
            answers = list();
            return rows(i);
        }

        int clear(int i) {
            if (bad(i, 0, 0)) {
                return -1;
            }
            int before = rows(i);
            rows[i] = new boolean[8][8];
            answers = list();
            return before;
        }

        int rows(int i) {
            if (bad(i, 0, 0)) {
                return -1;
            }
            int n = 0;
            for (boolean[] line : rows[i]) {
                for (boolean there : line) {
                    n += there ? 1 : 0;
                }
            }
            return n;
        }

        int answer(int k) {
            if (k < 0 || k >= answers.size()) {
                return -4;
            }
            int[] x = answers.get(k);
            return x[0] + 8 * x[1] + 64 * x[2] + 512 * x[3] + 4096 * x[4];
        }

        boolean has(int code) {
            for (int k = 0; k < answers.size(); k++) {
                if (answer(k) == code) {
                    return true;
                }
            }
            return false;
        }

        int rank(int code) {
            if (code < 0 || code > 32767) {
                return -1;
            }
            int[] list = {code % 8, code / 8 % 8, code / 64 % 8, code / 512 % 8, code / 4096};
            int n = 0;
            for (int[] x : answers) {
                n += java.util.Arrays.compare(x, list) < 0 ? 1 : 0;
            }
            return n;
        }

        static int first(int i, int[] x) {
            return i == 3 ? x[1] : x[i];
        }

        static int second(int i, int[] x) {
            return x[i + 1];
        }

        int useful(int i) {
            if (bad(i, 0, 0)) {
                return -1;
            }
            Set<Integer> seen = new HashSet<>();
            for (int[] x : answers) {
                seen.add(first(i, x) * 8 + second(i, x));
            }
            return seen.size();
        }

        int weight(int i, int a, int b) {
            if (bad(i, a, b)) {
                return 0;
            }
            int n = 0;
            for (int[] x : answers) {
                n += first(i, x) == a && second(i, x) == b ? 1 : 0;
            }
            return n;
        }

        int gain(int i, int a, int b) {
            if (bad(i, a, b)) {
                return -1;
            }
            boolean before = rows[i][a][b];
            rows[i][a][b] = true;
            int more = list().size() - answers.size();
            rows[i][a][b] = before;
            return more;
        }

        int values(int c) {
            if (c < 0 || c > 4) {
                return -1;
            }
            Set<Integer> seen = new HashSet<>();
            for (int[] x : answers) {
                seen.add(x[c]);
            }
            return seen.size();
        }

        int with(int c, int v) {
            if (c < 0 || c > 4 || v < 0 || v > 7) {
                return -1;
            }
            int n = 0;
            for (int[] x : answers) {
                n += x[c] == v ? 1 : 0;
            }
            return n;
        }

        int ends() {
            Set<Integer> seen = new HashSet<>();
            for (int[] x : answers) {
                seen.add(x[0] * 8 + x[3]);
            }
            return seen.size();
        }

        int sum() {
            int total = 0;
            for (int[] x : answers) {
                total += x[3] + x[4];
            }
            return total;
        }
    }
}
