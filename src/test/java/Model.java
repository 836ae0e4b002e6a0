import java.util.ArrayList;
import java.util.Arrays;
import java.util.HashSet;
import java.util.List;
import java.util.Set;

/** The tables as they are told, and all answers listed in their order after each change. */
final class Model {
    final boolean[][][] rows = new boolean[4][8][8];
    List<int[]> answers = new ArrayList<>();

    static boolean bad(int i, int a, int b) {
        return i < 0 || i > 3 || a < 0 || a > 7 || b < 0 || b > 7;
    }

    List<int[]> list() {
        List<int[]> found = new ArrayList<>();
        for (int place = 0; place < 32768; place++) {
            int p = place / 4096;
            int q = place / 512 % 8;
            if (!rows[0][p][q]) {
                place += 511;
                continue;
            }
            int r = place / 64 % 8;
            int s = place / 8 % 8;
            int t = place % 8;
            if (rows[1][q][r] && rows[2][r][s] && rows[3][q][t]) {
                found.add(new int[] {p, q, r, s, t});
            }
        }
        return found;
    }

    int put(int i, int a, int b) {
        if (bad(i, a, b)) {
            return -1;
        }
        if (rows[i][a][b]) {
            return -4;
        }
        if (rows(i) == 10) {
            return -2;
        }
        rows[i][a][b] = true;
        answers = list();
        return rows(i);
    }

    int drop(int i, int a, int b) {
        if (bad(i, a, b)) {
            return -1;
        }
        if (!rows[i][a][b]) {
            return -4;
        }
        rows[i][a][b] = false;
        answers = list();
        return rows(i);
    }

    int clear(int i) {
        if (bad(i, 0, 0)) {
            return -1;
        }
        int before = rows(i);
        rows[i] = new boolean[8][8];
        answers = list();
        return before;
    }

    int rows(int i) {
        if (bad(i, 0, 0)) {
            return -1;
        }
        int n = 0;
        for (boolean[] line : rows[i]) {
            for (boolean there : line) {
                n += there ? 1 : 0;
            }
        }
        return n;
    }

    int count() {
        return answers.size();
    }

    int answer(int k) {
        if (k < 0 || k >= answers.size()) {
            return -4;
        }
        int[] x = answers.get(k);
        return x[0] + 8 * x[1] + 64 * x[2] + 512 * x[3] + 4096 * x[4];
    }

    boolean has(int code) {
        for (int k = 0; k < answers.size(); k++) {
            if (answer(k) == code) {
                return true;
            }
        }
        return false;
    }

    int rank(int code) {
        if (code < 0 || code > 32767) {
            return -1;
        }
        int[] list = {code % 8, code / 8 % 8, code / 64 % 8, code / 512 % 8, code / 4096};
        int n = 0;
        for (int[] x : answers) {
            n += Arrays.compare(x, list) < 0 ? 1 : 0;
        }
        return n;
    }

    static int first(int i, int[] x) {
        return i == 3 ? x[1] : x[i];
    }

    static int second(int i, int[] x) {
        return x[i + 1];
    }

    int useful(int i) {
        if (bad(i, 0, 0)) {
            return -1;
        }
        Set<Integer> seen = new HashSet<>();
        for (int[] x : answers) {
            seen.add(first(i, x) * 8 + second(i, x));
        }
        return seen.size();
    }

    int weight(int i, int a, int b) {
        if (bad(i, a, b)) {
            return 0;
        }
        int n = 0;
        for (int[] x : answers) {
            n += first(i, x) == a && second(i, x) == b ? 1 : 0;
        }
        return n;
    }

    int gain(int i, int a, int b) {
        if (bad(i, a, b)) {
            return -1;
        }
        boolean before = rows[i][a][b];
        rows[i][a][b] = true;
        int more = list().size() - answers.size();
        rows[i][a][b] = before;
        return more;
    }

    int values(int c) {
        if (c < 0 || c > 4) {
            return -1;
        }
        Set<Integer> seen = new HashSet<>();
        for (int[] x : answers) {
            seen.add(x[c]);
        }
        return seen.size();
    }

    int with(int c, int v) {
        if (c < 0 || c > 4 || v < 0 || v > 7) {
            return -1;
        }
        int n = 0;
        for (int[] x : answers) {
            n += x[c] == v ? 1 : 0;
        }
        return n;
    }

    int ends() {
        Set<Integer> seen = new HashSet<>();
        for (int[] x : answers) {
            seen.add(x[0] * 8 + x[3]);
        }
        return seen.size();
    }

    int sum() {
        int total = 0;
        for (int[] x : answers) {
            total += x[3] + x[4];
        }
        return total;
    }
}
