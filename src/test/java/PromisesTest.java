/** Each promise by itself: ordinary inputs, the edges that the document names, and wrong inputs. */
public final class PromisesTest {
    private static final int[] NO_STATE_OF_TWO = {-1, 2, 5, 6, Integer.MIN_VALUE, Integer.MAX_VALUE};
    private static final int[] NO_SYMBOL = {-1, 4, 12, Integer.MIN_VALUE, Integer.MAX_VALUE};
    private static final double[] NO_WEIGHT = {
        -Double.MIN_VALUE, -0.5, Math.nextUp(1.0), 2.0, Double.NaN,
        Double.POSITIVE_INFINITY, Double.NEGATIVE_INFINITY, Double.MAX_VALUE, -Double.MAX_VALUE};

    public static void main(String[] args) {
        promise1NewObject();
        promise2States();
        promise2StatesForgetsEveryWeight();
        promise3Size();
        promise4Start();
        promise5Move();
        promise6Show();
        promise7Read();
        promise8Unread();
        promise9Length();
        promise10Forward();
        promise11Backward();
        promise12Total();
        promise13Best();
        promise14BestState();
        promise14BestStateOfTies();
        promise15Share();
        promise16Possible();
        orderOfSumsAndProducts();
        refusedCallsChangeNothing();
        answersFollowTheWeights();
        objectsAreApart();
        Due.end();
    }

    /** Two states, symbols 0, 1, 1; the numbers below are worked out by hand from the document. */
    private static PathOdds two() {
        PathOdds x = new PathOdds();
        x.states(2);
        x.start(0, 0.5);
        x.start(1, 0.25);
        x.move(0, 0, 0.5);
        x.move(0, 1, 0.25);
        x.move(1, 0, 1.0);
        x.move(1, 1, 0.5);
        x.show(0, 0, 0.5);
        x.show(0, 1, 0.25);
        x.show(1, 0, 1.0);
        x.show(1, 1, 0.5);
        x.read(0);
        x.read(1);
        x.read(1);
        return x;
    }

    /** n states in which every weight is w, and a row of the given length of symbol 0. */
    private static PathOdds even(int n, double w, int length) {
        PathOdds x = new PathOdds();
        x.states(n);
        for (int i = 0; i < n; i++) {
            x.start(i, w);
            x.show(i, 0, w);
            for (int j = 0; j < n; j++) {
                x.move(i, j, w);
            }
        }
        for (int t = 0; t < length; t++) {
            x.read(0);
        }
        return x;
    }

    private static void promise1NewObject() {
        PathOdds x = new PathOdds();
        Due.same("new: size()", x.size(), 1);
        Due.same("new: length()", x.length(), 0);
        Due.number("new: total()", x.total(), 1.0);
        Due.number("new: best()", x.best(), 1.0);
        Due.same("new: possible()", x.possible(), 1L);
        Due.no("new: unread()", x.unread());
        x.read(0);
        x.read(0);
        x.show(0, 0, 1.0);
        x.move(0, 0, 1.0);
        Due.number("new: S(0)", x.forward(0, 0), 0.0);
        x.start(0, 1.0);
        x.move(0, 0, 0.0);
        Due.number("new: total() with S and E alone", x.total(), 0.0);
        PathOdds y = new PathOdds();
        y.start(0, 1.0);
        for (int s = 0; s < 4; s++) {
            y.read(s);
            Due.number("new: E(0, s)", y.forward(0, 0), 0.0);
            y.unread();
        }
        PathOdds z = new PathOdds();
        z.start(0, 1.0);
        z.show(0, 0, 1.0);
        z.read(0);
        z.read(0);
        Due.number("new: M(0, 0)", z.backward(0, 0), 0.0);
    }

    private static void promise2States() {
        PathOdds x = new PathOdds();
        for (int n = 1; n <= 6; n++) {
            x.read(0);
            Due.yes("states(n)", x.states(n));
            Due.same("size() after states", x.size(), n);
            Due.same("length() after states", x.length(), 0);
            Due.number("total() after states", x.total(), 1.0);
        }
        int[] wrong = {0, 7, -1, Integer.MIN_VALUE, Integer.MAX_VALUE};
        PathOdds y = two();
        for (int n : wrong) {
            Due.no("states(" + n + ")", y.states(n));
            Due.same("size() after refused states", y.size(), 2);
            Due.same("length() after refused states", y.length(), 3);
            Due.number("total() after refused states", y.total(), two().total());
        }
    }

    private static void promise2StatesForgetsEveryWeight() {
        for (int between = 1; between <= 6; between++) {
            PathOdds x = full();
            x.states(between);
            x.states(6);
            for (int s = 0; s < 4; s++) {
                for (int i = 0; i < 6; i++) {
                    lookForOldWeights(x, i, s);
                }
            }
        }
    }

    private static PathOdds full() {
        PathOdds x = even(6, 1.0, 0);
        for (int i = 0; i < 6; i++) {
            for (int s = 0; s < 4; s++) {
                x.show(i, s, 1.0);
            }
        }
        return x;
    }

    private static void lookForOldWeights(PathOdds x, int i, int s) {
        x.states(6);
        x.start(i, 1.0);
        x.read(s);
        Due.number("E after states", x.forward(0, i), 0.0);
        x.states(6);
        x.show(i, s, 1.0);
        x.read(s);
        Due.number("S after states", x.forward(0, i), 0.0);
        x.read(s);
        for (int k = 0; k < 6; k++) {
            Due.number("M after states", x.backward(0, k), 0.0);
        }
    }

    private static void promise3Size() {
        PathOdds x = new PathOdds();
        Due.same("size()", x.size(), 1);
        x.states(6);
        Due.same("size() of six", x.size(), 6);
        x.states(7);
        Due.same("size() after states(7)", x.size(), 6);
        x.read(1);
        x.start(0, 1.0);
        Due.same("size() after read", x.size(), 6);
        x.states(6);
        Due.same("size() of six again", x.size(), 6);
        x.states(1);
        Due.same("size() of one", x.size(), 1);
    }

    private static void promise4Start() {
        PathOdds x = new PathOdds();
        x.states(2);
        x.show(0, 0, 1.0);
        x.show(1, 0, 1.0);
        x.read(0);
        double[] right = {0.5, 1.0, Double.MIN_VALUE, 0.1, 0.0, -0.0};
        for (double w : right) {
            Due.yes("start(1, " + w + ")", x.start(1, w));
            Due.number("S(1)", x.forward(0, 1), w);
            Due.number("S(0)", x.forward(0, 0), 0.0);
        }
        x.start(0, 0.5);
        x.start(1, 0.25);
        for (int i : NO_STATE_OF_TWO) {
            Due.no("start(" + i + ", 1.0)", x.start(i, 1.0));
        }
        for (double w : NO_WEIGHT) {
            Due.no("start(0, " + w + ")", x.start(0, w));
        }
        Due.number("S(0) after refused", x.forward(0, 0), 0.5);
        Due.number("S(1) after refused", x.forward(0, 1), 0.25);
    }

    private static void promise5Move() {
        PathOdds x = new PathOdds();
        x.states(2);
        x.show(0, 0, 1.0);
        x.read(0);
        x.read(0);
        double[] right = {0.5, 1.0, Double.MIN_VALUE, 0.1, 0.0, -0.0};
        for (double w : right) {
            Due.yes("move(1, 0, " + w + ")", x.move(1, 0, w));
            Due.number("M(1, 0)", x.backward(0, 1), w);
            Due.number("M(0, 0)", x.backward(0, 0), 0.0);
        }
        x.show(1, 0, 1.0);
        Due.number("M(0, 1) is not M(1, 0)", x.backward(0, 0), 0.0);
        x.move(0, 1, 0.25);
        x.move(1, 0, 0.5);
        for (int i : NO_STATE_OF_TWO) {
            Due.no("move(" + i + ", 0, 1.0)", x.move(i, 0, 1.0));
            Due.no("move(0, " + i + ", 1.0)", x.move(0, i, 1.0));
        }
        for (double w : NO_WEIGHT) {
            Due.no("move(0, 1, " + w + ")", x.move(0, 1, w));
        }
        Due.number("M(0, .) after refused", x.backward(0, 0), 0.25);
        Due.number("M(1, .) after refused", x.backward(0, 1), 0.5);
    }

    private static void promise6Show() {
        PathOdds x = new PathOdds();
        x.states(2);
        x.start(0, 1.0);
        x.start(1, 1.0);
        double[] right = {0.5, 1.0, Double.MIN_VALUE, 0.1, 0.0, -0.0, 0.75};
        for (int s = 0; s < 4; s++) {
            x.read(s);
            for (double w : right) {
                Due.yes("show(1, " + s + ", " + w + ")", x.show(1, s, w));
                Due.number("E(1, s)", x.forward(0, 1), w);
                Due.number("E(0, s)", x.forward(0, 0), 0.0);
            }
            x.unread();
        }
        for (int s : NO_SYMBOL) {
            Due.no("show(0, " + s + ", 1.0)", x.show(0, s, 1.0));
        }
        for (int i : NO_STATE_OF_TWO) {
            Due.no("show(" + i + ", 0, 1.0)", x.show(i, 0, 1.0));
        }
        for (double w : NO_WEIGHT) {
            Due.no("show(1, 0, " + w + ")", x.show(1, 0, w));
        }
        for (int s = 0; s < 4; s++) {
            x.read(s);
            Due.number("E(1, s) after refused", x.forward(0, 1), 0.75);
            Due.number("E(0, s) after refused", x.forward(0, 0), 0.0);
            x.unread();
        }
    }

    private static void promise7Read() {
        PathOdds x = new PathOdds();
        x.start(0, 1.0);
        x.move(0, 0, 1.0);
        double[] shown = {1.0, 0.5, 0.25, 0.125};
        for (int s = 0; s < 4; s++) {
            x.show(0, s, shown[s]);
        }
        for (int s : NO_SYMBOL) {
            Due.no("read(" + s + ")", x.read(s));
        }
        double product = 1.0;
        for (int t = 0; t < 12; t++) {
            Due.yes("read(" + t % 4 + ")", x.read(t % 4));
            product *= shown[t % 4];
            Due.same("length() after read", x.length(), t + 1);
            Due.number("total() after read", x.total(), product);
        }
        for (int s = -1; s < 5; s++) {
            Due.no("read(" + s + ") when the row has 12", x.read(s));
        }
        Due.same("length() of a full row", x.length(), 12);
        Due.number("total() of a full row", x.total(), product);
        x.unread();
        Due.no("read(4) when the row has 11", x.read(4));
        Due.yes("read(0) when the row has 11", x.read(0));
        Due.number("total() of another last symbol", x.total(), product * 8.0);
    }

    private static void promise8Unread() {
        PathOdds x = two();
        Due.yes("unread() of three", x.unread());
        Due.number("total() of two", x.total(), 0.25 * 0.5 * 0.25 + 0.25 * 0.25 + 0.25 * 0.25 * 0.5 + 0.25 * 0.5 * 0.5);
        Due.yes("unread() of two", x.unread());
        Due.number("total() of one", x.total(), 0.5);
        Due.yes("unread() of one", x.unread());
        Due.number("total() of none", x.total(), 1.0);
        Due.no("unread() of none", x.unread());
        Due.same("length() of none", x.length(), 0);
        Due.no("unread() of none again", x.unread());
        Due.yes("read(1) after it", x.read(1));
        Due.number("weights stay", x.total(), 0.25);
        PathOdds y = even(2, 1.0, 12);
        for (int t = 12; t > 0; t--) {
            Due.yes("unread() of a full row", y.unread());
            Due.same("length() after unread", y.length(), t - 1);
        }
        Due.no("unread() of an emptied row", y.unread());
    }

    private static void promise9Length() {
        PathOdds x = new PathOdds();
        Due.same("length()", x.length(), 0);
        x.read(3);
        x.read(4);
        Due.same("length() after one right, one wrong", x.length(), 1);
        x.read(3);
        x.unread();
        x.read(1);
        Due.same("length() after reading and unreading", x.length(), 2);
        x.states(9);
        Due.same("length() after refused states", x.length(), 2);
        x.states(1);
        Due.same("length() after states", x.length(), 0);
    }

    private static void promise10Forward() {
        PathOdds x = two();
        // A(0) = 0.25, 0.25; sums into 1: 0.375, 0.1875; A(1) = 0.09375, 0.09375
        double[][] due = {{0.25, 0.25}, {0.09375, 0.09375}, {0.03515625, 0.03515625}};
        for (int t = 0; t < 3; t++) {
            for (int i = 0; i < 2; i++) {
                final int place = t;
                final int state = i;
                Due.tells("forward(" + t + ", " + i + ")", () -> x.forward(place, state), due[t][i]);
            }
        }
        wrongPlaces("forward", x::forward);
        x.states(2);
        Due.refuses("forward(0, 0) of an empty row", () -> x.forward(0, 0), Due.INDEX);
        Due.refuses("forward(0, 9) of an empty row", () -> x.forward(0, 9), Due.INDEX);
    }

    private static void promise11Backward() {
        PathOdds x = two();
        // from 0: 0.5 * 0.25 + 0.25 * 0.5 = 0.25; from 1: 1.0 * 0.25 + 0.5 * 0.5 = 0.5
        double[][] due = {{0.09375, 0.1875}, {0.25, 0.5}, {1.0, 1.0}};
        for (int t = 0; t < 3; t++) {
            for (int i = 0; i < 2; i++) {
                final int place = t;
                final int state = i;
                Due.tells("backward(" + t + ", " + i + ")", () -> x.backward(place, state), due[t][i]);
            }
        }
        wrongPlaces("backward", x::backward);
        PathOdds y = new PathOdds();
        Due.refuses("backward(0, 0) of an empty row", () -> y.backward(0, 0), Due.INDEX);
        y.read(0);
        Due.tells("backward(0, 0) with all weights 0", () -> y.backward(0, 0), 1.0);
    }

    /** A call that takes a place and a state. */
    private interface PlaceCall {
        double answer(int t, int i);
    }

    /** For a row of three symbols and two states. */
    private static void wrongPlaces(String name, PlaceCall call) {
        int[] noPlace = {-1, 3, 4, 11, 12, Integer.MIN_VALUE, Integer.MAX_VALUE};
        for (int t : noPlace) {
            Due.refuses(name + "(" + t + ", 0)", () -> call.answer(t, 0), Due.INDEX);
            Due.refuses(name + "(" + t + ", 2)", () -> call.answer(t, 2), Due.INDEX);
            Due.refuses(name + "(" + t + ", -1)", () -> call.answer(t, -1), Due.INDEX);
        }
        for (int i : NO_STATE_OF_TWO) {
            Due.refuses(name + "(0, " + i + ")", () -> call.answer(0, i), Due.ARGUMENT);
            Due.refuses(name + "(2, " + i + ")", () -> call.answer(2, i), Due.ARGUMENT);
        }
    }

    private static void promise12Total() {
        Due.number("total() of two", two().total(), 0.0703125);
        Due.number("total() of an empty row", even(3, 0.5, 0).total(), 1.0);
        Due.number("total() above 1", even(6, 1.0, 12).total(), 2176782336.0);
        PathOdds x = new PathOdds();
        x.read(0);
        Due.number("total() of weights 0", x.total(), 0.0);
        Due.number("total() that comes out as 0", even(1, 1e-200, 1).total(), 0.0);
    }

    private static void promise13Best() {
        // V(1) = 0.0625, 0.0625; V(2) = 0.0625 * 1.0 * 0.25 and 0.0625 * 0.5 * 0.5
        Due.number("best() of two", two().best(), 0.015625);
        Due.number("best() of an empty row", even(3, 0.5, 0).best(), 1.0);
        Due.number("best() of ones", even(6, 1.0, 12).best(), 1.0);
        Due.number("best() of a half", even(6, 0.5, 12).best(), 1.0 / (1 << 24));
        PathOdds x = new PathOdds();
        x.states(3);
        x.read(0);
        Due.number("best() of weights 0", x.best(), 0.0);
        x.start(2, 0.5);
        x.show(2, 0, 0.5);
        Due.number("best() in the last state", x.best(), 0.25);
        Due.number("best() that comes out as 0", even(2, 1e-200, 2).best(), 0.0);
    }

    private static void promise14BestState() {
        PathOdds x = two();
        // both V(2) are 0.015625, so it ends in 0; into 0 at 2 from 1, into 1 at 1 from 1 (0.125 over 0.0625)
        int[] due = {1, 1, 0};
        for (int t = 0; t < 3; t++) {
            Due.same("bestState(" + t + ")", x.bestState(t), due[t]);
        }
        int[] noPlace = {-1, 3, 11, 12, Integer.MIN_VALUE, Integer.MAX_VALUE};
        for (int t : noPlace) {
            Due.same("bestState(" + t + ")", x.bestState(t), -1);
        }
        Due.same("bestState(0) of an empty row", new PathOdds().bestState(0), -1);
        PathOdds ring = ring();
        for (int t = 0; t < 12; t++) {
            Due.same("bestState(" + t + ") in the ring", ring.bestState(t), (t + 4) % 6);
        }
        Due.same("bestState(12) in the ring", ring.bestState(12), -1);
    }

    /** Six states one after the other, beginning in 4: the one possible row of states. */
    private static PathOdds ring() {
        PathOdds x = new PathOdds();
        x.states(6);
        x.start(4, 1.0);
        for (int i = 0; i < 6; i++) {
            x.move(i, (i + 1) % 6, 0.5);
            x.show(i, 1, 0.5);
        }
        for (int t = 0; t < 12; t++) {
            x.read(1);
        }
        return x;
    }

    private static void promise14BestStateOfTies() {
        PathOdds even = even(6, 0.5, 12);
        PathOdds nothing = new PathOdds();
        nothing.states(6);
        for (int t = 0; t < 12; t++) {
            nothing.read(t % 4);
        }
        for (int t = 0; t < 12; t++) {
            Due.same("bestState(" + t + ") of equal weights", even.bestState(t), 0);
            Due.same("bestState(" + t + ") of weights 0", nothing.bestState(t), 0);
        }
        // The last symbol is shown nowhere: best() is 0, yet the way to state 0 is the greatest one.
        PathOdds x = ring();
        x.unread();
        x.read(2);
        Due.number("best() in the ring without the last", x.best(), 0.0);
        Due.same("bestState(11) in the ring without the last", x.bestState(11), 0);
        Due.same("bestState(10) in the ring without the last", x.bestState(10), 0);
        // Products that come out as 0 are ties, though one row of states alone is possible.
        PathOdds y = new PathOdds();
        y.states(2);
        y.start(1, 1e-200);
        y.show(1, 0, 1e-200);
        y.read(0);
        Due.same("bestState(0) where the product is 0", y.bestState(0), 0);
        Due.same("possible() where the product is 0", y.possible(), 1L);
    }

    private static void promise15Share() {
        PathOdds x = two();
        double[][] due = {{1.0 / 3.0, 2.0 / 3.0}, {1.0 / 3.0, 2.0 / 3.0}, {0.5, 0.5}};
        for (int t = 0; t < 3; t++) {
            for (int i = 0; i < 2; i++) {
                final int place = t;
                final int state = i;
                Due.tells("share(" + t + ", " + i + ")", () -> x.share(place, state), due[t][i]);
            }
        }
        wrongPlaces("share", x::share);
        x.start(0, 0.0);
        x.start(1, 0.0);
        Due.refuses("share(0, 0) of total 0", () -> x.share(0, 0), Due.ARITHMETIC);
        Due.refuses("share(2, 1) of total 0", () -> x.share(2, 1), Due.ARITHMETIC);
        wrongPlaces("share of total 0", x::share);
        PathOdds tiny = even(1, 1e-200, 1);
        Due.refuses("share(0, 0) of a total that comes out as 0", () -> tiny.share(0, 0), Due.ARITHMETIC);
        PathOdds small = even(1, 1.0, 3);
        small.start(0, Double.MIN_VALUE);
        Due.tells("share(1, 0) of the smallest total", () -> small.share(1, 0), 1.0);
        PathOdds none = new PathOdds();
        Due.refuses("share(0, 0) of an empty row", () -> none.share(0, 0), Due.INDEX);
        Due.refuses("share(11, 6) of ones", () -> even(6, 1.0, 12).share(11, 6), Due.ARGUMENT);
    }

    private static void promise16Possible() {
        Due.same("possible() of two", two().possible(), 8L);
        Due.same("possible() of an empty row", even(4, 0.5, 0).possible(), 1L);
        Due.same("possible() beyond an int", even(6, 0.5, 12).possible(), 2176782336L);
        Due.same("possible() where products are 0", even(6, Double.MIN_VALUE, 12).possible(), 2176782336L);
        Due.same("possible() of -0.0", even(6, -0.0, 3).possible(), 0L);
        Due.same("possible() in the ring", ring().possible(), 1L);
        PathOdds x = even(3, 1.0, 4);
        x.start(0, 0.0);
        Due.same("possible() with two beginnings", x.possible(), 54L);
        x.move(1, 1, 0.0);
        x.move(2, 2, 0.0);
        x.move(0, 0, 0.0);
        Due.same("possible() without staying", x.possible(), 16L);
        x.show(0, 0, 0.0);
        Due.same("possible() without showing in 0", x.possible(), 2L);
        PathOdds none = new PathOdds();
        none.read(0);
        Due.same("possible() of weights 0", none.possible(), 0L);
    }

    /** Weights for which another order of sums or of products gives another last digit. */
    private static void orderOfSumsAndProducts() {
        PathOdds x = new PathOdds();
        x.states(3);
        double[] w = {0.1, 0.2, 0.3};
        for (int i = 0; i < 3; i++) {
            x.start(i, w[i]);
            x.show(i, 0, 1.0);
            x.show(i, 1, 0.7);
            for (int j = 0; j < 3; j++) {
                x.move(i, j, 1.0);
            }
        }
        x.read(0);
        Due.number("total() adds the lowest first", x.total(), ((0.0 + 0.1) + 0.2) + 0.3);
        x.read(1);
        Due.number("forward sums before it shows", x.forward(1, 0), ((0.1 + 0.2) + 0.3) * 0.7);
        PathOdds y = new PathOdds();
        y.show(0, 0, 0.7);
        y.show(0, 1, 0.3);
        y.move(0, 0, 0.1);
        y.read(0);
        y.read(0);
        y.read(1);
        y.start(0, 0.9);
        Due.number("best multiplies from the left", y.best(), (((0.9 * 0.7) * 0.1) * 0.7) * 0.1 * 0.3);
        y.move(0, 0, 0.7);
        Due.number("backward multiplies from the left", y.backward(0, 0), (0.7 * 0.7) * (0.7 * 0.3));
        PathOdds z = even(3, 1.0, 2);
        for (int j = 0; j < 3; j++) {
            z.move(0, j, w[j]);
        }
        Due.number("backward adds the lowest first", z.backward(0, 0), ((0.0 + 0.1) + 0.2) + 0.3);
    }

    private static void refusedCallsChangeNothing() {
        PathOdds x = two();
        String before = everything(x);
        x.states(0);
        x.states(7);
        x.start(2, 1.0);
        x.start(0, 1.5);
        x.move(0, 2, 1.0);
        x.move(2, 0, 1.0);
        x.move(0, 0, Double.NaN);
        x.show(0, 4, 1.0);
        x.show(2, 0, 1.0);
        x.show(0, 0, -1.0);
        x.read(4);
        x.read(-1);
        x.bestState(3);
        Due.told(() -> x.forward(3, 0));
        Due.told(() -> x.backward(0, 2));
        Due.told(() -> x.share(-1, 0));
        Due.same("everything after refused calls", everything(x), before);
        Due.same("everything asked twice", everything(x), before);
    }

    private static String everything(PathOdds x) {
        StringBuilder b = new StringBuilder();
        b.append(x.size()).append(' ').append(x.length()).append(' ').append(x.total()).append(' ');
        b.append(x.best()).append(' ').append(x.possible());
        for (int t = 0; t < x.length(); t++) {
            b.append(' ').append(x.bestState(t));
            for (int i = 0; i < x.size(); i++) {
                final int place = t;
                final int state = i;
                b.append(' ').append(Due.told(() -> x.forward(place, state)));
                b.append(' ').append(Due.told(() -> x.backward(place, state)));
                b.append(' ').append(Due.told(() -> x.share(place, state)));
            }
        }
        return b.toString();
    }

    private static void answersFollowTheWeights() {
        PathOdds x = two();
        everything(x);
        x.start(1, 0.0);
        Due.number("total() after start", x.total(), 0.0234375);
        Due.same("bestState(0) after start", x.bestState(0), 0);
        Due.same("possible() after start", x.possible(), 4L);
        x.show(0, 1, 0.0);
        Due.number("total() after show", x.total(), 0.25 * 0.25 * 0.5 * 0.5 * 0.5);
        Due.number("backward(0, 0) after show", x.backward(0, 0), 0.25 * 0.5 * 0.5 * 0.5);
        x.move(1, 1, 1.0);
        Due.number("best() after move", x.best(), 0.25 * 0.25 * 0.5 * 0.5);
        x.move(0, 1, 0.0);
        Due.refuses("share(0, 0) after move", () -> x.share(0, 0), Due.ARITHMETIC);
        x.unread();
        x.unread();
        Due.tells("share(0, 0) after unread", () -> x.share(0, 0), 1.0);
    }

    private static void objectsAreApart() {
        PathOdds x = two();
        PathOdds y = even(6, 1.0, 12);
        Due.number("total() of the first object", x.total(), 0.0703125);
        y.states(1);
        Due.same("size() of the first object", x.size(), 2);
        Due.same("length() of the first object", x.length(), 3);
        Due.number("best() of the first object", x.best(), 0.015625);
    }
}
