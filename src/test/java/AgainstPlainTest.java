import java.util.Random;

/** Long runs of mixed calls, right and wrong ones, each answer compared with the plain formulas. */
public final class AgainstPlainTest {
    private static final int RUNS = 1500;
    // With what begin() calls and the two calls of one question, a run stays within the document's 512.
    private static final int CALLS = 380;
    private static final double[] SPECIAL = {
        0.0, -0.0, 1.0, 0.5, 0.25, 1e-200, 1e-30, Double.MIN_VALUE, Double.MIN_NORMAL, Math.nextDown(1.0)};
    private static final double[] WRONG = {
        Double.NaN, -Double.MIN_VALUE, -1.0, Math.nextUp(1.0), Double.POSITIVE_INFINITY, Double.NEGATIVE_INFINITY};

    private final Random random;
    private final PathOdds x = new PathOdds();
    private final Plain plain = new Plain();
    private final int kind;
    private String call = "";

    private AgainstPlainTest(long seed) {
        random = new Random(seed);
        kind = (int) (seed % 4);
    }

    public static void main(String[] args) {
        for (int run = 0; run < RUNS; run++) {
            AgainstPlainTest test = new AgainstPlainTest(run);
            if (run % 10 != 0) {
                test.begin();
            }
            for (int k = 0; k < CALLS; k++) {
                test.call = "run " + run + ", call " + k + ": ";
                test.one();
            }
        }
        Due.end();
    }

    /** At most 79 calls: states, 6 + 36 + 24 weights and 12 symbols. */
    private void begin() {
        int n = 1 + random.nextInt(6);
        Due.same("states", x.states(n), plain.states(n));
        for (int i = 0; i < n; i++) {
            double w = weight();
            Due.same("start", x.start(i, w), plain.start(i, w));
            for (int j = 0; j < n; j++) {
                double v = weight();
                Due.same("move", x.move(i, j, v), plain.move(i, j, v));
            }
            for (int s = 0; s < 4; s++) {
                double v = weight();
                Due.same("show", x.show(i, s, v), plain.show(i, s, v));
            }
        }
        int length = random.nextInt(13);
        for (int t = 0; t < length; t++) {
            int s = random.nextInt(4);
            Due.same("read", x.read(s), plain.read(s));
        }
    }

    /** By the run's kind: any doubles, quarters (many ties), special ones (products of 0), or all of these. */
    private double weight() {
        int now = kind == 3 ? random.nextInt(3) : kind;
        if (random.nextInt(40) == 0) {
            return WRONG[random.nextInt(WRONG.length)];
        }
        if (now == 0) {
            return random.nextDouble();
        }
        return now == 1 ? random.nextInt(5) / 4.0 : SPECIAL[random.nextInt(SPECIAL.length)];
    }

    private int near(int bound) {
        return random.nextInt(12) == 0 ? far(bound) : random.nextInt(Math.max(1, bound));
    }

    private int far(int bound) {
        int[] outside = {-1, bound, bound + 1, Integer.MIN_VALUE, Integer.MAX_VALUE};
        return outside[random.nextInt(outside.length)];
    }

    private void one() {
        plain.fresh();
        int which = random.nextInt(40);
        if (which < 12) {
            change(which);
        } else if (which < 26) {
            place(which % 3, near(plain.row.size()), near(plain.n));
        } else {
            ask(which % 6);
        }
    }

    private void change(int which) {
        int i = near(plain.n);
        int j = near(plain.n);
        int s = near(4);
        double w = weight();
        if (which < 2) {
            Due.same(call + "start", x.start(i, w), plain.start(i, w));
        } else if (which < 5) {
            Due.same(call + "move", x.move(i, j, w), plain.move(i, j, w));
        } else if (which < 7) {
            Due.same(call + "show", x.show(i, s, w), plain.show(i, s, w));
        } else if (which < 10) {
            Due.same(call + "read", x.read(s), plain.read(s));
        } else if (which < 11) {
            Due.same(call + "unread", x.unread(), plain.unread());
        } else {
            int n = random.nextInt(20) == 0 ? 1 + random.nextInt(6) : random.nextBoolean() ? 0 : far(7);
            Due.same(call + "states", x.states(n), plain.states(n));
        }
    }

    private void place(int which, int t, int i) {
        String wrong = plain.wrongPlace(t, i);
        Due.Call got = which == 0 ? () -> x.forward(t, i) : which == 1 ? () -> x.backward(t, i) : () -> x.share(t, i);
        String name = call + (which == 0 ? "forward" : which == 1 ? "backward" : "share") + "(" + t + ", " + i + ")";
        if (!wrong.isEmpty()) {
            Due.refuses(name, got, wrong);
        } else if (which == 0) {
            Due.tells(name, got, plain.forward(t, i));
        } else if (which == 1) {
            Due.tells(name, got, plain.backward(t, i));
        } else if (plain.total() == 0) {
            Due.refuses(name, got, Due.ARITHMETIC);
        } else {
            Due.tells(name, got, (plain.forward(t, i) * plain.backward(t, i)) / plain.total());
        }
    }

    private void ask(int which) {
        if (which == 0) {
            Due.same(call + "size", x.size(), plain.n);
            Due.same(call + "length", x.length(), plain.row.size());
        } else if (which == 1) {
            Due.number(call + "total", x.total(), plain.total());
        } else if (which == 2) {
            Due.number(call + "best", x.best(), plain.best());
        } else if (which == 3) {
            askPossible();
        } else {
            int t = near(plain.row.size());
            Due.same(call + "bestState(" + t + ")", x.bestState(t), plain.bestState(t));
        }
    }

    private void askPossible() {
        long got = x.possible();
        Due.same(call + "possible", got, plain.possibleByRecursion());
        if (Math.pow(plain.n, plain.row.size()) <= 5000) {
            Due.same(call + "possible, one by one", got, plain.possibleOneByOne());
        }
    }
}
