import java.util.ArrayList;
import java.util.List;

/** The document's formulas written down as they stand, by recursion and with no thought for speed. */
final class Plain {
    int n = 1;
    double[] s = new double[1];
    double[][] m = new double[1][1];
    double[][] e = new double[1][4];
    final List<Integer> row = new ArrayList<>();
    private Double[][] a;
    private Double[][] b;
    private Double[][] v;

    boolean states(int count) {
        if (count < 1 || count > 6) {
            return false;
        }
        n = count;
        s = new double[n];
        m = new double[n][n];
        e = new double[n][4];
        row.clear();
        return true;
    }

    boolean noState(int i) {
        return i < 0 || i >= n;
    }

    boolean noPlace(int t) {
        return t < 0 || t >= row.size();
    }

    static boolean noSymbol(int x) {
        return x < 0 || x > 3;
    }

    static boolean noWeight(double w) {
        return Double.isNaN(w) || w < 0 || w > 1;
    }

    boolean start(int i, double w) {
        if (noState(i) || noWeight(w)) {
            return false;
        }
        s[i] = w;
        return true;
    }

    boolean move(int i, int j, double w) {
        if (noState(i) || noState(j) || noWeight(w)) {
            return false;
        }
        m[i][j] = w;
        return true;
    }

    boolean show(int i, int x, double w) {
        if (noState(i) || noSymbol(x) || noWeight(w)) {
            return false;
        }
        e[i][x] = w;
        return true;
    }

    boolean read(int x) {
        return !noSymbol(x) && row.size() != 12 && row.add(x);
    }

    boolean unread() {
        if (row.isEmpty()) {
            return false;
        }
        row.remove(row.size() - 1);
        return true;
    }

    /** Forgets what was worked out for other weights or another row. */
    void fresh() {
        a = new Double[12][6];
        b = new Double[12][6];
        v = new Double[12][6];
    }

    private double shown(int t, int j) {
        return e[j][row.get(t)];
    }

    double forward(int t, int j) {
        if (a[t][j] == null) {
            if (t == 0) {
                a[t][j] = s[j] * shown(0, j);
            } else {
                double sum = 0.0;
                for (int i = 0; i < n; i++) {
                    sum = sum + forward(t - 1, i) * m[i][j];
                }
                a[t][j] = sum * shown(t, j);
            }
        }
        return a[t][j];
    }

    double backward(int t, int i) {
        if (b[t][i] == null) {
            if (t == row.size() - 1) {
                b[t][i] = 1.0;
            } else {
                double sum = 0.0;
                for (int j = 0; j < n; j++) {
                    sum = sum + (m[i][j] * shown(t + 1, j)) * backward(t + 1, j);
                }
                b[t][i] = sum;
            }
        }
        return b[t][i];
    }

    double total() {
        if (row.isEmpty()) {
            return 1.0;
        }
        double sum = 0.0;
        for (int j = 0; j < n; j++) {
            sum = sum + forward(row.size() - 1, j);
        }
        return sum;
    }

    private double v(int t, int j) {
        if (v[t][j] == null) {
            if (t == 0) {
                v[t][j] = s[j] * shown(0, j);
            } else {
                double greatest = -1.0;
                for (int i = n - 1; i >= 0; i--) {
                    greatest = Math.max(greatest, v(t - 1, i) * m[i][j]);
                }
                v[t][j] = greatest * shown(t, j);
            }
        }
        return v[t][j];
    }

    private int from(int t, int j) {
        double greatest = -1.0;
        for (int i = 0; i < n; i++) {
            greatest = Math.max(greatest, v(t - 1, i) * m[i][j]);
        }
        int i = 0;
        while (v(t - 1, i) * m[i][j] != greatest) {
            i++;
        }
        return i;
    }

    double best() {
        if (row.isEmpty()) {
            return 1.0;
        }
        double greatest = -1.0;
        for (int j = 0; j < n; j++) {
            greatest = Math.max(greatest, v(row.size() - 1, j));
        }
        return greatest;
    }

    int bestState(int t) {
        if (noPlace(t)) {
            return -1;
        }
        if (t < row.size() - 1) {
            return from(t + 1, bestState(t + 1));
        }
        int j = 0;
        while (v(t, j) != best()) {
            j++;
        }
        return j;
    }

    String wrongPlace(int t, int i) {
        return noPlace(t) ? Due.INDEX : noState(i) ? Due.ARGUMENT : "";
    }

    /** Every row of states looked at by itself; only for few of them. */
    long possibleOneByOne() {
        int all = 1;
        for (int t = 0; t < row.size(); t++) {
            all *= n;
        }
        long count = 0;
        for (int code = 0; code < all; code++) {
            if (isPossible(code)) {
                count++;
            }
        }
        return count;
    }

    private boolean isPossible(int code) {
        int before = -1;
        int rest = code;
        for (int t = 0; t < row.size(); t++) {
            int now = rest % n;
            rest /= n;
            double gone = t == 0 ? s[now] : m[before][now];
            if (!(gone > 0) || !(shown(t, now) > 0)) {
                return false;
            }
            before = now;
        }
        return true;
    }

    /** The same by the states that can follow, for rows too many to look at one by one. */
    long possibleByRecursion() {
        if (row.isEmpty()) {
            return 1;
        }
        long count = 0;
        for (int j = 0; j < n; j++) {
            if (s[j] > 0 && shown(0, j) > 0) {
                count += onwards(0, j, new Long[12][6]);
            }
        }
        return count;
    }

    private long onwards(int t, int i, Long[][] known) {
        if (t == row.size() - 1) {
            return 1;
        }
        if (known[t][i] == null) {
            long count = 0;
            for (int j = 0; j < n; j++) {
                if (m[i][j] > 0 && shown(t + 1, j) > 0) {
                    count += onwards(t + 1, j, known);
                }
            }
            known[t][i] = count;
        }
        return known[t][i];
    }
}
