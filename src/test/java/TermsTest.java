/** A test of its own for each sentence of the document's head and of its "Terms". */
public final class TermsTest {
    // Half the distance from 1.0 to the next double: 1.0 + HALF is 1.0, but 1.0 + (HALF + HALF) is not.
    private static final double HALF = 0x1p-53;
    private static final double TINY = Double.MIN_VALUE;

    /** Something done to an object. */
    private interface Act {
        void on(PathOdds x);
    }

    public static void main(String[] args) {
        Due.sentence("What it is", "at most 512 calls after it has been made", TermsTest::lastOf512Calls);
        term("STATES are 0 .. n - 1, n from 1 to 6", TermsTest::statesFrom0);
        term("SYMBOLS 0 .. 3", TermsTest::symbolsFrom0To3);
        term("WEIGHTS are doubles from 0 to 1", TermsTest::weightsFrom0To1);
        term("all 0 at first", TermsTest::all0AtFirst);
        term("The ROW has at most 12 symbols", TermsTest::rowOfAtMost12);
        term("symbol t is the t-th (0 the first)", TermsTest::symbolT);
        term("its length is T", TermsTest::lengthIsT);
        term("a SUM begins with 0.0", TermsTest::sumBeginsWith0);
        term("adds its terms one by one, the lowest state first", TermsTest::lowestStateFirst);
        term("a product of three is worked out from the left", TermsTest::fromTheLeft);
        term("A(0, j) = S(j) * E(j, symbol 0)", TermsTest::forwardAtFirst);
        term("A(t, j) = (sum over i of A(t - 1, i) * M(i, j)) * E(j, symbol t)", TermsTest::forwardOn);
        term("B(T - 1, i) = 1.0", TermsTest::backwardAtLast);
        term("B(t, i) = sum over j of M(i, j) * E(j, symbol t + 1) * B(t + 1, j)", TermsTest::backwardOn);
        term("TOTAL: sum over j of A(T - 1, j)", TermsTest::totalOfLast);
        term("It is 1.0 for T = 0", TermsTest::totalOfNone);
        term("V(0, j) = S(j) * E(j, symbol 0)", TermsTest::bestAtFirst);
        term("V(t, j) = (the greatest of the V(t - 1, i) * M(i, j)) * E(j, symbol t)", TermsTest::bestOn);
        term("from(t, j) is the lowest i with that greatest", TermsTest::lowestFrom);
        term("from(t, j) is the lowest i with that greatest", TermsTest::fromBeforeItShows);
        term("The best row of states ends in the lowest j with the greatest V(T - 1, j)", TermsTest::lowestEnd);
        term("each state before a state j at t is from(t, j)", TermsTest::eachStateBefore);
        term("the weights of beginning", TermsTest::possibleBeginning);
        term("of going on T - 1 times", TermsTest::possibleGoingOn);
        term("of showing the T symbols in it", TermsTest::possibleShowing);
        term("are all above 0", TermsTest::possibleAbove0);
        term("(so also where their product comes out as 0)", TermsTest::possibleWithProduct0);
        term("A call that is refused changes nothing", TermsTest::refusedChangesNothing);
        term("A call that is refused changes nothing", TermsTest::refusedOnFullRow);
        term("A call that is refused changes nothing", TermsTest::refusedOnEmptyRow);
        term("What is told is always that of the present weights and row", TermsTest::presentIsTold);
        Due.end();
    }

    private static void term(String words, Runnable test) {
        Due.sentence("Terms", words, test);
    }

    private static void lastOf512Calls() {
        PathOdds x = Models.two();
        for (int call = 15; call <= 510; call += 2) {
            Due.yes("read, call " + call, x.read(call % 4));
            Due.yes("unread, call " + (call + 1), x.unread());
        }
        Due.number("total(), call 511", x.total(), 0.0703125);
        Due.tells("share(2, 1), call 512", () -> x.share(2, 1), 0.5);
        PathOdds y = new PathOdds();
        for (int call = 1; call <= 511; call++) {
            y.states(call % 6 + 1);
        }
        Due.same("size(), call 512", y.size(), 511 % 6 + 1);
    }

    private static void statesFrom0() {
        for (int n = 1; n <= 6; n++) {
            PathOdds x = new PathOdds();
            Due.yes("states(" + n + ")", x.states(n));
            x.read(0);
            for (int i = 0; i < n; i++) {
                isState(x, n, i);
            }
            for (int i : Models.noStateOf(n)) {
                isNoState(x, n, i);
            }
        }
        Due.no("states(0)", new PathOdds().states(0));
        Due.no("states(7)", new PathOdds().states(7));
    }

    private static void isState(PathOdds x, int n, int i) {
        String of = " of " + n + " states";
        Due.yes("start(" + i + ")" + of, x.start(i, 0.5));
        Due.yes("show(" + i + ")" + of, x.show(i, 0, 0.5));
        Due.yes("move(" + i + ", last)" + of, x.move(i, n - 1, 0.5));
        Due.yes("move(last, " + i + ")" + of, x.move(n - 1, i, 0.5));
        Due.tells("forward(0, " + i + ")" + of, () -> x.forward(0, i), 0.25);
        Due.tells("backward(0, " + i + ")" + of, () -> x.backward(0, i), 1.0);
        Due.tells("share(0, " + i + ")" + of, () -> x.share(0, i), 0.25 / (0.25 * (i + 1)));
    }

    private static void isNoState(PathOdds x, int n, int i) {
        String of = " of " + n + " states";
        Due.no("start(" + i + ")" + of, x.start(i, 0.5));
        Due.no("show(" + i + ")" + of, x.show(i, 0, 0.5));
        Due.no("move(" + i + ", 0)" + of, x.move(i, 0, 0.5));
        Due.no("move(0, " + i + ")" + of, x.move(0, i, 0.5));
        Due.refuses("forward(0, " + i + ")" + of, () -> x.forward(0, i), Due.ARGUMENT);
        Due.refuses("backward(0, " + i + ")" + of, () -> x.backward(0, i), Due.ARGUMENT);
        Due.refuses("share(0, " + i + ")" + of, () -> x.share(0, i), Due.ARGUMENT);
    }

    private static void symbolsFrom0To3() {
        PathOdds x = new PathOdds();
        for (int s = 0; s <= 3; s++) {
            Due.yes("show(0, " + s + ")", x.show(0, s, 0.5));
            Due.yes("read(" + s + ")", x.read(s));
        }
        for (int s : Models.NO_SYMBOL) {
            Due.no("show(0, " + s + ")", x.show(0, s, 0.5));
            Due.no("read(" + s + ")", x.read(s));
        }
    }

    private static void weightsFrom0To1() {
        PathOdds x = Models.even(1, 1.0, 2);
        for (double w : Models.WEIGHTS) {
            Due.yes("start of " + w, x.start(0, w));
            Due.exact("S(0) of " + w, x.forward(0, 0), w);
        }
        for (double w : Models.WEIGHTS) {
            Due.yes("move of " + w, x.move(0, 0, w));
            Due.number("M(0, 0) of " + w, x.backward(0, 0), w);
        }
        x.start(0, 1.0);
        Due.exact("best() of a move of -0.0, which is no sum", x.best(), -0.0);
        for (double w : Models.WEIGHTS) {
            Due.yes("show of " + w, x.show(0, 0, w));
            Due.exact("E(0, 0) of " + w, x.forward(0, 0), w);
        }
        for (double w : Models.NO_WEIGHT) {
            Due.no("start of " + w, x.start(0, w));
            Due.no("move of " + w, x.move(0, 0, w));
            Due.no("show of " + w, x.show(0, 0, w));
        }
    }

    private static void all0AtFirst() {
        PathOdds start = new PathOdds();
        start.show(0, 0, 1.0);
        start.read(0);
        Due.exact("S(0)", start.forward(0, 0), 0.0);
        PathOdds move = new PathOdds();
        move.show(0, 0, 1.0);
        Models.read(move, 0, 0);
        Due.exact("M(0, 0)", move.backward(0, 0), 0.0);
        for (int s = 0; s <= 3; s++) {
            PathOdds show = new PathOdds();
            show.start(0, 1.0);
            show.read(s);
            Due.exact("E(0, " + s + ")", show.forward(0, 0), 0.0);
        }
    }

    private static void rowOfAtMost12() {
        PathOdds x = Models.even(1, 1.0, 0);
        for (int t = 0; t < 12; t++) {
            Due.yes("read of symbol " + t, x.read(t % 4));
        }
        for (int s = 0; s <= 3; s++) {
            Due.no("read of one more", x.read(s));
        }
        Due.same("length()", x.length(), 12);
        Due.tells("forward(11, 0)", () -> x.forward(11, 0), 1.0);
        Due.refuses("forward(12, 0)", () -> x.forward(12, 0), Due.INDEX);
    }

    private static void symbolT() {
        PathOdds x = Models.even(1, 1.0, 0);
        double[] shown = {1.0, 0.5, 0.25, 0.125};
        for (int s = 0; s <= 3; s++) {
            x.show(0, s, shown[s]);
        }
        int[] row = {3, 0, 2, 1, 1, 0, 3, 2, 0, 1, 2, 3};
        Models.read(x, row);
        double before = 1.0;
        for (int t = 0; t < 12; t++) {
            before *= shown[row[t]];
            Due.exact("forward(" + t + ", 0)", x.forward(t, 0), before);
        }
        double after = 1.0;
        for (int t = 11; t >= 0; t--) {
            Due.exact("backward(" + t + ", 0)", x.backward(t, 0), after);
            after *= shown[row[t]];
        }
    }

    private static void lengthIsT() {
        PathOdds x = Models.even(2, 0.5, 0);
        for (int length = 0; length <= 12; length++) {
            Due.same("length()", x.length(), length);
            Due.same("bestState(T)", x.bestState(length), -1);
            if (length > 0) {
                Due.same("bestState(T - 1)", x.bestState(length - 1), 0);
            }
            x.read(3);
        }
    }

    /** Only a sum of terms that are all -0.0 tells what it began with. */
    private static void sumBeginsWith0() {
        for (int n = 1; n <= 6; n++) {
            PathOdds x = Models.even(n, 1.0, 1);
            for (int i = 0; i < n; i++) {
                x.start(i, -0.0);
                Due.exact("forward(0, i), which is no sum", x.forward(0, i), -0.0);
            }
            Due.exact("total()", x.total(), 0.0);
            x.read(0);
            Due.exact("forward(1, 0)", x.forward(1, 0), 0.0);
            for (int i = 0; i < n; i++) {
                for (int j = 0; j < n; j++) {
                    x.move(i, j, -0.0);
                }
            }
            Due.exact("backward(0, 0)", x.backward(0, 0), 0.0);
        }
    }

    private static void lowestStateFirst() {
        double[] great = {1.0, HALF, HALF, HALF, HALF, HALF};
        double[] small = {HALF, HALF, HALF, HALF, HALF, 1.0};
        Due.yes("the order shows", 1.0 + 0x1p-51 != 1.0);
        sums(great, 1.0);
        sums(small, 1.0 + 0x1p-51);
        sums(new double[] {0.1, 0.2, 0.3, 0.0, 0.0, 0.0}, (0.1 + 0.2) + 0.3);
        sums(new double[] {0.3, 0.2, 0.1, 0.0, 0.0, 0.0}, (0.3 + 0.2) + 0.1);
    }

    /** The same six terms as those of the total, of a sum into a state and of a sum out of one. */
    private static void sums(double[] terms, double due) {
        PathOdds x = Models.even(6, 1.0, 1);
        for (int i = 0; i < 6; i++) {
            x.start(i, terms[i]);
        }
        Due.exact("total()", x.total(), due);
        x.read(0);
        Due.exact("forward(1, 3)", x.forward(1, 3), due);
        for (int j = 0; j < 6; j++) {
            x.move(4, j, terms[j]);
        }
        Due.exact("backward(0, 4)", x.backward(0, 4), due);
    }

    private static void fromTheLeft() {
        PathOdds x = Models.even(1, 1.0, 0);
        x.move(0, 0, 0.1);
        x.show(0, 1, 0.2);
        x.show(0, 2, 1.0);
        Models.read(x, 0, 1, 2);
        Due.number("backward(1, 0)", x.backward(1, 0), 0.1);
        Due.number("backward(0, 0)", x.backward(0, 0), (0.1 * 0.2) * 0.1);
        x.show(0, 1, 0.1);
        x.show(0, 2, 0.7);
        double last = 0.1 * 0.7;
        Due.yes("the order shows", (0.1 * 0.1) * last != 0.1 * (0.1 * last));
        Due.number("backward(0, 0)", x.backward(0, 0), (0.1 * 0.1) * last);
        // From the left the product is 0 after two factors; the third, above 1, comes too late for it.
        PathOdds y = Models.even(6, 1.0, 1);
        for (int j = 0; j < 6; j++) {
            y.move(0, j, TINY);
            y.show(j, 1, 0.5);
        }
        Models.read(y, 1, 0);
        Due.yes("the order shows", TINY * (0.5 * 6.0) != 0.0);
        Due.exact("backward(1, 5)", y.backward(1, 5), 6.0);
        Due.exact("backward(0, 0)", y.backward(0, 0), 0.0);
    }

    private static void forwardAtFirst() {
        PathOdds x = Models.states(3);
        for (int j = 0; j < 3; j++) {
            x.start(j, 0.25 * (j + 1));
            x.show(j, 2, 0.5 / (j + 1));
            x.show(j, 1, 1.0);
        }
        x.read(2);
        for (int length = 1; length <= 12; length++) {
            for (int j = 0; j < 3; j++) {
                Due.exact("forward(0, " + j + ")", x.forward(0, j), (0.25 * (j + 1)) * (0.5 / (j + 1)));
            }
            x.read(1);
        }
    }

    private static void forwardOn() {
        PathOdds x = Models.even(3, 1.0, 1);
        double[] w = {0.1, 0.2, 0.3};
        for (int i = 0; i < 3; i++) {
            x.start(i, w[i]);
            x.show(i, 1, 0.7);
        }
        x.read(1);
        Due.yes("the order shows", ((0.1 + 0.2) + 0.3) * 0.7 != (0.1 * 0.7 + 0.2 * 0.7) + 0.3 * 0.7);
        Due.exact("forward(1, 1)", x.forward(1, 1), ((0.1 + 0.2) + 0.3) * 0.7);
        PathOdds way = Models.states(2);
        way.start(0, 1.0);
        way.start(1, 1.0);
        way.show(0, 0, 0.5);
        way.show(1, 0, 0.25);
        way.show(0, 1, 0.125);
        way.show(1, 1, 0.0625);
        way.move(0, 1, 0.5);
        Models.read(way, 0, 1);
        Due.exact("forward(1, 0), into 0", way.forward(1, 0), 0.0);
        Due.exact("forward(1, 1), from 0 into 1", way.forward(1, 1), (0.5 * 0.5) * 0.0625);
        PathOdds long12 = Models.even(6, 1.0, 12);
        double paths = 1.0;
        for (int t = 0; t < 12; t++) {
            Due.exact("forward(" + t + ", 5) of ones", long12.forward(t, 5), paths);
            paths *= 6.0;
        }
    }

    private static void backwardAtLast() {
        PathOdds x = Models.states(6);
        for (int length = 1; length <= 12; length++) {
            x.read(length % 4);
            for (int i = 0; i < 6; i++) {
                Due.exact("backward(T - 1, " + i + ") of weights 0", x.backward(length - 1, i), 1.0);
            }
            if (length > 1) {
                Due.exact("backward(T - 2, 0) of weights 0", x.backward(length - 2, 0), 0.0);
            }
        }
        x.unread();
        Due.exact("backward(10, 0) after unread", x.backward(10, 0), 1.0);
    }

    private static void backwardOn() {
        PathOdds x = Models.states(2);
        x.show(0, 0, 0.5);
        x.show(1, 0, 0.25);
        x.show(0, 1, 0.125);
        x.show(1, 1, 0.0625);
        x.move(0, 1, 0.5);
        Models.read(x, 0, 1);
        Due.exact("backward(0, 0), from 0 into 1", x.backward(0, 0), 0.5 * 0.0625);
        Due.exact("backward(0, 1), out of 1", x.backward(0, 1), 0.0);
        PathOdds long12 = Models.even(6, 1.0, 12);
        double paths = 1.0;
        for (int t = 11; t >= 0; t--) {
            Due.exact("backward(" + t + ", 5) of ones", long12.backward(t, 5), paths);
            paths *= 6.0;
        }
    }

    private static void totalOfLast() {
        Due.number("total() of two", Models.two().total(), 0.03515625 + 0.03515625);
        Due.number("total() of ones", Models.even(6, 1.0, 12).total(), 2176782336.0);
        PathOdds x = Models.states(3);
        x.read(3);
        Due.exact("total() of weights 0", x.total(), 0.0);
        for (int j = 0; j < 3; j++) {
            x.start(j, 1.0);
            x.show(j, 3, 0.5);
            Due.exact("total() of one symbol", x.total(), 0.5 * (j + 1));
        }
        Due.exact("total() that comes out as 0", Models.even(1, 1e-200, 1).total(), 0.0);
    }

    private static void totalOfNone() {
        Due.exact("total() of a new object", new PathOdds().total(), 1.0);
        for (int n = 1; n <= 6; n++) {
            Due.exact("total() of weights 0", Models.states(n).total(), 1.0);
            Due.exact("total() of weights 0.5", Models.even(n, 0.5, 0).total(), 1.0);
        }
        PathOdds x = Models.even(3, 0.5, 12);
        for (int t = 0; t < 12; t++) {
            x.unread();
        }
        Due.exact("total() of an emptied row", x.total(), 1.0);
        PathOdds y = Models.two();
        y.states(2);
        Due.exact("total() after states", y.total(), 1.0);
    }

    private static void bestAtFirst() {
        PathOdds x = Models.states(3);
        x.read(2);
        for (int j = 0; j < 3; j++) {
            x.start(j, 0.25 * (j + 1));
            x.show(j, 2, 0.5);
            Due.exact("best() of one symbol", x.best(), (0.25 * (j + 1)) * 0.5);
            Due.same("bestState(0)", x.bestState(0), j);
        }
    }

    private static void bestOn() {
        // The greatest V(0) is that of state 0, the greatest M that of state 2, the greatest product that of 1.
        PathOdds x = Models.states(3);
        double[] begin = {1.0, 0.75, 0.25};
        double[] go = {0.25, 0.5, 0.75};
        for (int i = 0; i < 3; i++) {
            x.start(i, begin[i]);
            x.show(i, 0, 1.0);
            x.move(i, 2, go[i]);
        }
        x.show(2, 1, 0.5);
        Models.read(x, 0, 1);
        Due.exact("best()", x.best(), (0.75 * 0.5) * 0.5);
        Due.same("bestState(0)", x.bestState(0), 1);
        PathOdds y = Models.even(1, 1.0, 0);
        y.start(0, 0.1);
        y.move(0, 0, 0.1);
        y.show(0, 1, 0.7);
        Models.read(y, 0, 1);
        Due.yes("the order shows", (0.1 * 0.1) * 0.7 != 0.1 * (0.1 * 0.7));
        Due.exact("best() shows last", y.best(), (0.1 * 0.1) * 0.7);
        Due.exact("best() is no sum", Models.even(6, 1.0, 12).best(), 1.0);
    }

    private static void lowestFrom() {
        for (int lowest = 0; lowest < 6; lowest++) {
            PathOdds x = Models.even(6, 1.0, 2);
            for (int i = 0; i < 6; i++) {
                for (int j = 0; j < 6; j++) {
                    x.move(i, j, i < lowest ? 0.25 : 0.5);
                }
            }
            Due.same("bestState(0) of equals from " + lowest + " on", x.bestState(0), lowest);
        }
        PathOdds x = Models.even(3, 1.0, 2);
        double[] begin = {0.25, 0.5, 1.0};
        for (int i = 0; i < 3; i++) {
            x.start(i, begin[i]);
            x.move(i, 0, i == 0 ? 0.5 : 0.5 / begin[i]);
            x.move(i, 1, 0.0);
            x.move(i, 2, 0.0);
        }
        Due.same("bestState(0) of equal products of unequal weights", x.bestState(0), 1);
        // 0.5 * TINY comes out as 0, so state 1 is no greater than state 0, which cannot be reached.
        PathOdds y = Models.even(2, 1.0, 2);
        y.start(0, 0.0);
        y.start(1, TINY);
        y.move(1, 0, 0.5);
        y.move(1, 1, 0.5);
        Due.same("bestState(0) where products come out as 0", y.bestState(0), 0);
        y.move(1, 0, 1.0);
        Due.same("bestState(0) where one product is above 0", y.bestState(0), 1);
    }

    /** The greatest is sought before the state at t shows its symbol: an E of 0 makes no ties there. */
    private static void fromBeforeItShows() {
        PathOdds x = Models.even(3, 1.0, 1);
        for (int i = 0; i < 3; i++) {
            x.start(i, 0.25 * (i + 1));
            x.show(i, 1, 0.0);
        }
        x.read(1);
        Due.same("bestState(1) of a symbol that is shown nowhere", x.bestState(1), 0);
        Due.same("bestState(0) before it", x.bestState(0), 2);
    }

    private static void lowestEnd() {
        for (int lowest = 0; lowest < 6; lowest++) {
            for (int length = 1; length <= 12; length += 11) {
                PathOdds x = Models.even(6, 1.0, length - 1);
                for (int j = 0; j < 6; j++) {
                    x.show(j, 1, j < lowest ? 0.25 : 0.5);
                }
                x.read(1);
                Due.same("bestState(T - 1) of equals from " + lowest + " on", x.bestState(length - 1), lowest);
            }
        }
        PathOdds y = Models.even(6, 1.0, 3);
        y.show(4, 1, 0.5);
        for (int j = 0; j < 4; j++) {
            y.show(j, 1, 0.25);
        }
        y.show(5, 1, 0.25);
        y.read(1);
        Due.same("bestState(3) of one greatest", y.bestState(3), 4);
        PathOdds z = Models.even(2, 0.0, 1);
        z.start(0, -0.0);
        Due.same("bestState(0) of -0.0 and 0.0, which are equal", z.bestState(0), 0);
    }

    private static void eachStateBefore() {
        // The greatest V(0) is that of state 0, yet the best row comes from state 1.
        PathOdds x = Models.even(2, 1.0, 2);
        x.start(0, 0.5);
        x.start(1, 0.25);
        x.move(0, 0, 0.25);
        x.move(0, 1, 0.25);
        x.move(1, 0, 0.0);
        Due.same("bestState(1)", x.bestState(1), 1);
        Due.same("bestState(0)", x.bestState(0), 1);
        PathOdds ring = Models.ring();
        for (int t = 0; t < 12; t++) {
            Due.same("bestState(" + t + ") in the ring", ring.bestState(t), (t + 4) % 6);
        }
    }

    private static void possibleBeginning() {
        PathOdds x = Models.even(3, 1.0, 4);
        x.start(0, 0.0);
        Due.same("possible() of two beginnings", x.possible(), 54L);
        x.start(1, 0.0);
        x.start(2, 0.0);
        Due.same("possible() of no beginning", x.possible(), 0L);
        for (int t = 0; t < 3; t++) {
            x.unread();
        }
        Due.same("possible() of no beginning, one symbol", x.possible(), 0L);
    }

    private static void possibleGoingOn() {
        PathOdds x = Models.even(3, 1.0, 1);
        for (int i = 0; i < 3; i++) {
            for (int j = 0; j < 3; j++) {
                x.move(i, j, 0.0);
            }
        }
        Due.same("possible() of one symbol, which goes nowhere", x.possible(), 3L);
        x.read(0);
        Due.same("possible() of two symbols", x.possible(), 0L);
        x.move(0, 2, 0.5);
        Due.same("possible() from 0 to 2", x.possible(), 1L);
        x.start(2, 0.0);
        Due.same("possible() from 0 to 2, not from 2 to 0", x.possible(), 1L);
        x.read(0);
        Due.same("possible() of three symbols", x.possible(), 0L);
    }

    private static void possibleShowing() {
        for (int where = 0; where < 12; where++) {
            PathOdds x = Models.even(2, 1.0, where);
            x.show(1, 3, 0.0);
            x.read(3);
            for (int t = where + 1; t < 12; t++) {
                x.read(0);
            }
            Due.same("possible() where one state shows symbol " + where, x.possible(), 2048L);
            x.show(0, 3, 0.0);
            Due.same("possible() where none shows symbol " + where, x.possible(), 0L);
        }
    }

    private static void possibleAbove0() {
        double[] above = {TINY, 1e-200, 1.0};
        double[] notAbove = {0.0, -0.0};
        for (double w : above) {
            Due.same("possible() of start " + w, weighed(w, 1.0, 1.0).possible(), 1L);
            Due.same("possible() of move " + w, weighed(1.0, w, 1.0).possible(), 1L);
            Due.same("possible() of show " + w, weighed(1.0, 1.0, w).possible(), 1L);
        }
        for (double w : notAbove) {
            Due.same("possible() of start " + w, weighed(w, 1.0, 1.0).possible(), 0L);
            Due.same("possible() of move " + w, weighed(1.0, w, 1.0).possible(), 0L);
            Due.same("possible() of show " + w, weighed(1.0, 1.0, w).possible(), 0L);
        }
    }

    private static PathOdds weighed(double start, double move, double show) {
        PathOdds x = Models.even(1, 1.0, 2);
        x.start(0, start);
        x.move(0, 0, move);
        x.show(0, 0, show);
        return x;
    }

    private static void possibleWithProduct0() {
        double[] small = {TINY, 1e-200, 1e-100};
        for (double w : small) {
            PathOdds x = Models.even(6, w, 12);
            Due.exact("total() of " + w, x.total(), 0.0);
            Due.exact("best() of " + w, x.best(), 0.0);
            Due.same("possible() of " + w, x.possible(), 2176782336L);
        }
        PathOdds one = Models.even(1, 1e-200, 1);
        Due.same("possible() of one symbol", one.possible(), 1L);
    }

    private static void refusedChangesNothing() {
        for (int i : Models.noStateOf(2)) {
            changesNothing("start(" + i + ", 1.0)", x -> Due.no("start", x.start(i, 1.0)));
            changesNothing("move(" + i + ", 0, 1.0)", x -> Due.no("move", x.move(i, 0, 1.0)));
            changesNothing("move(0, " + i + ", 1.0)", x -> Due.no("move", x.move(0, i, 1.0)));
            changesNothing("show(" + i + ", 0, 1.0)", x -> Due.no("show", x.show(i, 0, 1.0)));
            changesNothing("forward(0, " + i + ")", x -> Due.refuses("forward", () -> x.forward(0, i), Due.ARGUMENT));
            changesNothing("backward(0, " + i + ")", x -> Due.refuses("backward", () -> x.backward(0, i), Due.ARGUMENT));
            changesNothing("share(0, " + i + ")", x -> Due.refuses("share", () -> x.share(0, i), Due.ARGUMENT));
        }
        for (double w : Models.NO_WEIGHT) {
            changesNothing("start(1, " + w + ")", x -> Due.no("start", x.start(1, w)));
            changesNothing("move(0, 1, " + w + ")", x -> Due.no("move", x.move(0, 1, w)));
            changesNothing("show(1, 3, " + w + ")", x -> Due.no("show", x.show(1, 3, w)));
        }
        for (int s : Models.NO_SYMBOL) {
            changesNothing("show(0, " + s + ", 1.0)", x -> Due.no("show", x.show(0, s, 1.0)));
            changesNothing("read(" + s + ")", x -> Due.no("read", x.read(s)));
        }
        for (int t : Models.noPlaceOf(8)) {
            changesNothing("forward(" + t + ", 0)", x -> Due.refuses("forward", () -> x.forward(t, 0), Due.INDEX));
            changesNothing("backward(" + t + ", 0)", x -> Due.refuses("backward", () -> x.backward(t, 0), Due.INDEX));
            changesNothing("share(" + t + ", 0)", x -> Due.refuses("share", () -> x.share(t, 0), Due.INDEX));
            changesNothing("bestState(" + t + ")", x -> Due.same("bestState", x.bestState(t), -1));
        }
        int[] noCount = {0, 7, -1, Integer.MIN_VALUE, Integer.MAX_VALUE};
        for (int n : noCount) {
            changesNothing("states(" + n + ")", x -> Due.no("states", x.states(n)));
        }
    }

    private static void changesNothing(String call, Act refused) {
        PathOdds x = mixed(8);
        String before = Models.everything(mixed(8));
        refused.on(x);
        Due.same("everything after " + call, Models.everything(x), before);
    }

    /** Two states with weights that differ from each other, and all symbols in the row from four on. */
    private static PathOdds mixed(int length) {
        PathOdds x = Models.states(2);
        for (int i = 0; i < 2; i++) {
            x.start(i, 0.9 - 0.3 * i);
            for (int j = 0; j < 2; j++) {
                x.move(i, j, 0.8 - 0.1 * i - 0.3 * j);
            }
            for (int s = 0; s <= 3; s++) {
                x.show(i, s, 0.7 - 0.11 * s - 0.05 * i);
            }
        }
        for (int t = 0; t < length; t++) {
            x.read(t % 4);
        }
        return x;
    }

    private static void refusedOnFullRow() {
        for (int s = -1; s <= 4; s++) {
            PathOdds x = mixed(12);
            Due.no("read(" + s + ")", x.read(s));
            Due.same("everything after read on a full row", Models.everything(x), Models.everything(mixed(12)));
        }
    }

    private static void refusedOnEmptyRow() {
        PathOdds x = mixed(0);
        Due.no("unread()", x.unread());
        Due.refuses("share(0, 0)", () -> x.share(0, 0), Due.INDEX);
        Due.same("length() after unread on an empty row", x.length(), 0);
        Models.read(x, 0, 1, 2, 3);
        Due.same("everything after unread on an empty row", Models.everything(x), Models.everything(mixed(4)));
        PathOdds y = Models.states(2);
        y.read(0);
        String before = Models.everything(y);
        Due.refuses("share(0, 0) of total 0", () -> y.share(0, 0), Due.ARITHMETIC);
        Due.same("everything after share of total 0", Models.everything(y), before);
    }

    /** Whatever was asked before a change, all is told as by an object that was asked nothing before. */
    private static void presentIsTold() {
        Act[] questions = {
            x -> x.size(), x -> x.length(), x -> x.forward(3, 1), x -> x.backward(0, 1), x -> x.total(),
            x -> x.best(), x -> x.bestState(0), x -> x.share(1, 0), x -> x.possible(),
            x -> Due.told(() -> x.share(9, 9)), x -> Models.everything(x)};
        Act[] changes = {
            x -> x.start(1, 0.05), x -> x.start(0, 0.0), x -> x.move(1, 0, 0.05), x -> x.move(0, 0, 0.0),
            x -> x.show(1, 2, 0.95), x -> x.show(0, 1, 0.0), x -> x.read(1), x -> x.unread(),
            TermsTest::anotherLastSymbol, TermsTest::moreStates, TermsTest::fewerStates};
        for (int q = 0; q < questions.length; q++) {
            for (int c = 0; c < changes.length; c++) {
                PathOdds asked = mixed(5);
                PathOdds silent = mixed(5);
                questions[q].on(asked);
                changes[c].on(asked);
                changes[c].on(silent);
                Due.same("everything, question " + q + ", change " + c,
                    Models.everything(asked), Models.everything(silent));
            }
        }
        PathOdds twice = mixed(5);
        Due.same("everything asked twice", Models.everything(twice), Models.everything(twice));
    }

    private static void anotherLastSymbol(PathOdds x) {
        x.unread();
        x.read(3);
    }

    private static void moreStates(PathOdds x) {
        x.states(3);
        for (int i = 0; i < 3; i++) {
            x.start(i, 0.5);
            x.show(i, 1, 0.25 * (i + 1));
            x.move(i, 2 - i, 0.5);
        }
        Models.read(x, 1, 1, 1);
    }

    /** As long a row as before, so that what was worked out for a state that is gone would still be there. */
    private static void fewerStates(PathOdds x) {
        x.states(1);
        x.start(0, 0.25);
        x.show(0, 1, 0.25);
        x.move(0, 0, 0.25);
        Models.read(x, 1, 1, 1, 1, 1);
    }
}
