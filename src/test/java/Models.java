/** Objects that several tests begin with, and wrong arguments that several tests try. */
final class Models {
    static final int[] NO_SYMBOL = {-1, 4, 5, 12, Integer.MIN_VALUE, Integer.MAX_VALUE};
    static final double[] WEIGHTS = {
        0.5, 1.0, 0.1, Double.MIN_VALUE, Double.MIN_NORMAL, Math.nextDown(1.0), 0.0, -0.0};
    static final double[] NO_WEIGHT = {
        -Double.MIN_VALUE, -0.5, -1.0, Math.nextUp(1.0), 2.0, Double.NaN, Double.POSITIVE_INFINITY,
        Double.NEGATIVE_INFINITY, Double.MAX_VALUE, -Double.MAX_VALUE};

    private Models() {
    }

    static int[] noStateOf(int n) {
        return new int[] {-1, n, n + 1, 6, 7, Integer.MIN_VALUE, Integer.MAX_VALUE};
    }

    static int[] noPlaceOf(int length) {
        return new int[] {-1, length, length + 1, 12, 13, Integer.MIN_VALUE, Integer.MAX_VALUE};
    }

    static PathOdds states(int n) {
        PathOdds x = new PathOdds();
        x.states(n);
        return x;
    }

    static void read(PathOdds x, int... symbols) {
        for (int s : symbols) {
            x.read(s);
        }
    }

    /** Two states, symbols 0, 1, 1: 14 calls. */
    static PathOdds two() {
        PathOdds x = states(2);
        x.start(0, 0.5);
        x.start(1, 0.25);
        x.move(0, 0, 0.5);
        x.move(0, 1, 0.25);
        x.move(1, 0, 1.0);
        x.move(1, 1, 0.5);
        x.show(0, 0, 0.5);
        x.show(0, 1, 0.25);
        x.show(1, 0, 1.0);
        x.show(1, 1, 0.5);
        read(x, 0, 1, 1);
        return x;
    }

    /** n states in which every weight is w, and a row of the given length of symbol 0. */
    static PathOdds even(int n, double w, int length) {
        PathOdds x = states(n);
        for (int i = 0; i < n; i++) {
            x.start(i, w);
            for (int s = 0; s < 4; s++) {
                x.show(i, s, w);
            }
            for (int j = 0; j < n; j++) {
                x.move(i, j, w);
            }
        }
        for (int t = 0; t < length; t++) {
            x.read(0);
        }
        return x;
    }

    /** Six states one after the other, beginning in 4: one possible row of twelve states. */
    static PathOdds ring() {
        PathOdds x = states(6);
        x.start(4, 1.0);
        for (int i = 0; i < 6; i++) {
            x.move(i, (i + 1) % 6, 0.5);
            x.show(i, 1, 0.5);
        }
        for (int t = 0; t < 12; t++) {
            x.read(1);
        }
        return x;
    }

    /** Every answer of the object as text: 5 + T * (1 + 3 * n) calls. */
    static String everything(PathOdds x) {
        int n = x.size();
        int length = x.length();
        StringBuilder b = new StringBuilder();
        b.append(n).append(' ').append(length).append(' ').append(x.total()).append(' ');
        b.append(x.best()).append(' ').append(x.possible());
        for (int t = 0; t < length; t++) {
            final int place = t;
            b.append(' ').append(x.bestState(t));
            for (int i = 0; i < n; i++) {
                final int state = i;
                b.append(' ').append(Due.told(() -> x.forward(place, state)));
                b.append(' ').append(Due.told(() -> x.backward(place, state)));
                b.append(' ').append(Due.told(() -> x.share(place, state)));
            }
        }
        return b.toString();
    }
}
