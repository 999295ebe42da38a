import java.util.Arrays;
import java.util.function.Supplier;

/** A test of its own for each sentence of each promise: ordinary inputs, edges and wrong inputs. */
public final class PromisesTest {
    private static final int[] NO_COUNT = {0, 7, -1, -6, 12, Integer.MIN_VALUE, Integer.MAX_VALUE};

    /** A call that takes a place and a state. */
    private interface PlaceCall {
        double answer(PathOdds x, int t, int i);
    }

    public static void main(String[] args) {
        promise(1, "One state", PromisesTest::newHasOneState);
        promise(1, "all weights 0", PromisesTest::newHasNoWeights);
        promise(1, "no symbols", PromisesTest::newHasNoSymbols);
        promise(1, "A new object", PromisesTest::objectsAreApart);
        promise(2, "n states", PromisesTest::statesSetsTheirNumber);
        promise(2, "all weights 0", PromisesTest::statesForgetsEveryWeight);
        promise(2, "no symbols", PromisesTest::statesEmptiesTheRow);
        promise(2, "false if n is not 1 .. 6", PromisesTest::statesRefuses);
        promise(3, "The number of states", PromisesTest::sizeIsTheNumber);
        promise(4, "S(i) becomes w", PromisesTest::startSets);
        promise(4, "false if there is no such state", PromisesTest::startRefusesStates);
        promise(4, "or w is not from 0 to 1", PromisesTest::startRefusesWeights);
        promise(5, "M(i, j) becomes w", PromisesTest::moveSets);
        promise(5, "false if there is no such state", PromisesTest::moveRefusesStates);
        promise(5, "or w is not from 0 to 1", PromisesTest::moveRefusesWeights);
        promise(6, "E(i, s) becomes w", PromisesTest::showSets);
        promise(6, "false if there is no such state", PromisesTest::showRefusesStates);
        promise(6, "or symbol", PromisesTest::showRefusesSymbols);
        promise(6, "or w is not from 0 to 1", PromisesTest::showRefusesWeights);
        promise(7, "Appends a symbol to the row", PromisesTest::readAppends);
        promise(7, "false if there is no such symbol", PromisesTest::readRefusesSymbols);
        promise(7, "or the row has 12", PromisesTest::readRefusesThe13th);
        promise(8, "Takes the last symbol away", PromisesTest::unreadTakesTheLast);
        promise(8, "false if there is none", PromisesTest::unreadRefuses);
        promise(9, "`int length()`: T.", PromisesTest::lengthTells);
        promise(10, "A(t, i)", PromisesTest::forwardTells);
        promise(10, "IndexOutOfBoundsException if t is not 0 .. T - 1", PromisesTest::forwardRefusesPlaces);
        promise(10, "IllegalArgumentException (t being right) if there is no such state",
            PromisesTest::forwardRefusesStates);
        promise(11, "B(t, i)", PromisesTest::backwardTells);
        promise(11, "The exceptions of forward", PromisesTest::backwardRefusesPlaces);
        promise(11, "The exceptions of forward", PromisesTest::backwardRefusesStates);
        promise(12, "The total", PromisesTest::totalTells);
        promise(13, "The greatest of the V(T - 1, j)", PromisesTest::bestTells);
        promise(13, "1.0 for T = 0", PromisesTest::bestOfNone);
        promise(14, "The state at t in the best row of states", PromisesTest::bestStateTells);
        promise(14, "-1 if t is not 0 .. T - 1", PromisesTest::bestStateOfNoPlace);
        promise(14, "(Also where best() is 0.)", PromisesTest::bestStateWhereBestIs0);
        promise(15, "(A(t, i) * B(t, i)) / total", PromisesTest::shareTells);
        promise(15, "(A(t, i) * B(t, i)) / total", PromisesTest::shareWorksItOutInOrder);
        promise(15, "The exceptions of forward", PromisesTest::shareRefusesPlaces);
        promise(15, "The exceptions of forward", PromisesTest::shareRefusesStates);
        promise(15, "then ArithmeticException if the total is 0", PromisesTest::shareRefusesTotal0);
        promise(15, "then ArithmeticException if the total is 0", PromisesTest::shareRefusesTotal0Last);
        promise(16, "How many rows of T states are possible", PromisesTest::possibleCounts);
        promise(16, "1 for T = 0", PromisesTest::possibleOfNone);
        Due.end();
    }

    private static void promise(int number, String words, Runnable test) {
        Due.sentence("Promise " + number + ":", words, test);
    }

    private static void newHasOneState() {
        PathOdds x = new PathOdds();
        Due.same("size()", x.size(), 1);
        Due.yes("start(0, 1.0)", x.start(0, 1.0));
        Due.no("start(1, 1.0)", x.start(1, 1.0));
    }

    private static void newHasNoWeights() {
        for (int s = 0; s <= 3; s++) {
            looksForWeights(PathOdds::new, 0, s);
        }
    }

    private static void newHasNoSymbols() {
        PathOdds x = new PathOdds();
        Due.same("length()", x.length(), 0);
        Due.no("unread()", x.unread());
        Due.refuses("forward(0, 0)", () -> x.forward(0, 0), Due.INDEX);
        Due.number("total()", x.total(), 1.0);
        Due.same("possible()", x.possible(), 1L);
    }

    private static void objectsAreApart() {
        PathOdds x = Models.two();
        PathOdds y = Models.even(6, 1.0, 12);
        Due.number("total() of the first object", x.total(), 0.0703125);
        y.states(1);
        Due.same("size() of the first object", x.size(), 2);
        Due.same("length() of the first object", x.length(), 3);
        Due.number("best() of the first object", x.best(), 0.015625);
        new PathOdds();
        Due.number("best() of the first object after a new one", x.best(), 0.015625);
    }

    private static void statesSetsTheirNumber() {
        PathOdds x = new PathOdds();
        int[] counts = {1, 2, 3, 4, 5, 6, 6, 1, 1, 6, 2};
        for (int n : counts) {
            Due.yes("states(" + n + ")", x.states(n));
            Due.same("size()", x.size(), n);
            Due.yes("start(n - 1, 1.0)", x.start(n - 1, 1.0));
            Due.no("start(n, 1.0)", x.start(n, 1.0));
        }
    }

    /** To each number of states from six with all weights, and then to six again, where the first six began. */
    private static void statesForgetsEveryWeight() {
        for (int n = 1; n <= 6; n++) {
            final int count = n;
            for (int s = 0; s <= 3; s++) {
                for (int i = 0; i < n; i++) {
                    looksForWeights(() -> afterSix(count), i, s);
                }
                for (int i = 0; i < 6; i++) {
                    looksForWeights(() -> sixAfter(count), i, s);
                }
            }
        }
    }

    private static PathOdds afterSix(int n) {
        PathOdds x = Models.even(6, 1.0, 3);
        x.states(n);
        return x;
    }

    private static PathOdds sixAfter(int n) {
        PathOdds x = afterSix(n);
        x.states(6);
        return x;
    }

    /** Looks at S(i), at E(i, s) and at all M(k, i), each in an object where it alone can make the answer 0. */
    private static void looksForWeights(Supplier<PathOdds> maker, int i, int s) {
        PathOdds start = maker.get();
        start.show(i, s, 1.0);
        start.read(s);
        Due.exact("S(" + i + ")", start.forward(0, i), 0.0);
        PathOdds show = maker.get();
        show.start(i, 1.0);
        show.read(s);
        Due.exact("E(" + i + ", " + s + ")", show.forward(0, i), 0.0);
        PathOdds move = maker.get();
        move.show(i, s, 1.0);
        Models.read(move, s, s);
        for (int k = 0; k < move.size(); k++) {
            Due.exact("M(" + k + ", " + i + ")", move.backward(0, k), 0.0);
        }
        // best() is no sum, so it alone would tell moves of -0.0 from moves of 0.
        move.start(i, 1.0);
        Due.exact("best() where nothing goes on", move.best(), 0.0);
    }

    private static void statesEmptiesTheRow() {
        for (int length = 0; length <= 12; length++) {
            for (int n = 1; n <= 6; n++) {
                PathOdds x = Models.even(3, 0.5, length);
                x.states(n);
                Due.same("length()", x.length(), 0);
                Due.number("total()", x.total(), 1.0);
                Due.no("unread()", x.unread());
            }
        }
    }

    private static void statesRefuses() {
        PathOdds y = Models.two();
        String before = Models.everything(y);
        for (int n : NO_COUNT) {
            Due.no("states(" + n + ")", y.states(n));
            Due.same("size() after states(" + n + ")", y.size(), 2);
            Due.same("everything after states(" + n + ")", Models.everything(y), before);
        }
        for (int n = 1; n <= 6; n++) {
            Due.yes("states(" + n + ")", y.states(n));
        }
    }

    private static void sizeIsTheNumber() {
        PathOdds x = new PathOdds();
        Due.same("size()", x.size(), 1);
        x.states(6);
        Due.same("size() of six", x.size(), 6);
        x.states(7);
        x.states(0);
        Due.same("size() after refused states", x.size(), 6);
        x.read(1);
        x.start(0, 1.0);
        x.unread();
        Due.same("size() after other calls", x.size(), 6);
        x.states(1);
        Due.same("size() of one", x.size(), 1);
        for (int n = 1; n <= 6; n++) {
            for (int length = 0; length <= 12; length++) {
                Due.same("size() with " + length + " symbols", Models.even(n, 0.5, length).size(), n);
            }
        }
    }

    private static void startSets() {
        for (int n = 1; n <= 6; n++) {
            PathOdds x = Models.even(n, 1.0, 1);
            for (int i = 0; i < n; i++) {
                for (double w : Models.WEIGHTS) {
                    Due.yes("start(" + i + ", " + w + ")", x.start(i, w));
                    Due.exact("S(" + i + ")", x.forward(0, i), w);
                }
                x.start(i, 0.25);
            }
            for (int i = 0; i < n; i++) {
                Due.exact("S(" + i + ") after the others", x.forward(0, i), 0.25);
                x.start(i, 0.75);
            }
        }
    }

    private static void startRefusesStates() {
        for (int n = 1; n <= 6; n++) {
            PathOdds x = Models.even(6, 1.0, 1);
            x.states(n);
            for (int i : Models.noStateOf(n)) {
                Due.no("start(" + i + ", 0.5) of " + n, x.start(i, 0.5));
            }
        }
    }

    private static void startRefusesWeights() {
        PathOdds x = Models.even(2, 1.0, 1);
        x.start(1, 0.25);
        for (double w : Models.NO_WEIGHT) {
            Due.no("start(1, " + w + ")", x.start(1, w));
            Due.exact("S(1) after it", x.forward(0, 1), 0.25);
        }
    }

    private static void moveSets() {
        PathOdds x = Models.states(6);
        Models.read(x, 0, 0);
        for (int i = 0; i < 6; i++) {
            for (int j = 0; j < 6; j++) {
                double w = (6 * i + j + 1) / 64.0;
                Due.yes("move(" + i + ", " + j + ", " + w + ")", x.move(i, j, w));
            }
        }
        for (int j = 0; j < 6; j++) {
            x.show(j, 0, 1.0);
            for (int i = 0; i < 6; i++) {
                Due.exact("M(" + i + ", " + j + ")", x.backward(0, i), (6 * i + j + 1) / 64.0);
            }
            x.show(j, 0, 0.0);
        }
        PathOdds y = Models.even(1, 1.0, 2);
        for (double w : Models.WEIGHTS) {
            Due.yes("move(0, 0, " + w + ")", y.move(0, 0, w));
            Due.number("M(0, 0)", y.backward(0, 0), w);
        }
    }

    private static void moveRefusesStates() {
        for (int n = 1; n <= 6; n++) {
            PathOdds x = Models.even(6, 1.0, 1);
            x.states(n);
            for (int i : Models.noStateOf(n)) {
                Due.no("move(" + i + ", 0, 0.5) of " + n, x.move(i, 0, 0.5));
                Due.no("move(0, " + i + ", 0.5) of " + n, x.move(0, i, 0.5));
                Due.no("move(" + i + ", " + i + ", 0.5) of " + n, x.move(i, i, 0.5));
            }
        }
    }

    private static void moveRefusesWeights() {
        PathOdds x = Models.even(2, 1.0, 2);
        x.show(0, 0, 0.0);
        x.move(0, 1, 0.25);
        for (double w : Models.NO_WEIGHT) {
            Due.no("move(0, 1, " + w + ")", x.move(0, 1, w));
            Due.exact("M(0, 1) after it", x.backward(0, 0), 0.25);
        }
    }

    private static void showSets() {
        PathOdds x = Models.states(6);
        for (int i = 0; i < 6; i++) {
            x.start(i, 1.0);
            for (int s = 0; s <= 3; s++) {
                double w = (4 * i + s + 1) / 32.0;
                Due.yes("show(" + i + ", " + s + ", " + w + ")", x.show(i, s, w));
            }
        }
        for (int s = 0; s <= 3; s++) {
            x.read(s);
            for (int i = 0; i < 6; i++) {
                Due.exact("E(" + i + ", " + s + ")", x.forward(0, i), (4 * i + s + 1) / 32.0);
            }
            x.unread();
        }
        PathOdds y = Models.even(1, 1.0, 1);
        for (double w : Models.WEIGHTS) {
            Due.yes("show(0, 0, " + w + ")", y.show(0, 0, w));
            Due.exact("E(0, 0)", y.forward(0, 0), w);
        }
    }

    private static void showRefusesStates() {
        for (int n = 1; n <= 6; n++) {
            PathOdds x = Models.even(6, 1.0, 1);
            x.states(n);
            for (int i : Models.noStateOf(n)) {
                Due.no("show(" + i + ", 0, 0.5) of " + n, x.show(i, 0, 0.5));
                Due.no("show(" + i + ", 3, 0.5) of " + n, x.show(i, 3, 0.5));
            }
        }
    }

    private static void showRefusesSymbols() {
        PathOdds x = Models.even(6, 1.0, 0);
        for (int s : Models.NO_SYMBOL) {
            Due.no("show(0, " + s + ", 0.5)", x.show(0, s, 0.5));
            Due.no("show(5, " + s + ", 0.5)", x.show(5, s, 0.5));
        }
    }

    private static void showRefusesWeights() {
        PathOdds x = Models.even(2, 1.0, 1);
        x.show(1, 0, 0.25);
        for (double w : Models.NO_WEIGHT) {
            Due.no("show(1, 0, " + w + ")", x.show(1, 0, w));
            Due.exact("E(1, 0) after it", x.forward(0, 1), 0.25);
        }
    }

    /** One state that always goes on; symbol s halves the total s times. */
    private static PathOdds halving() {
        PathOdds x = Models.even(1, 1.0, 0);
        x.show(0, 1, 0.5);
        x.show(0, 2, 0.25);
        x.show(0, 3, 0.125);
        return x;
    }

    private static void readAppends() {
        PathOdds x = halving();
        double product = 1.0;
        for (int t = 0; t < 12; t++) {
            int s = (t * 3 + 1) % 4;
            Due.yes("read(" + s + ")", x.read(s));
            product /= 1 << s;
            Due.same("length()", x.length(), t + 1);
            Due.exact("total()", x.total(), product);
            Due.exact("forward(0, 0), the first symbol", x.forward(0, 0), 0.5);
        }
    }

    private static void readRefusesSymbols() {
        PathOdds x = halving();
        for (int length = 0; length <= 11; length++) {
            for (int s : Models.NO_SYMBOL) {
                Due.no("read(" + s + ") when the row has " + length, x.read(s));
                Due.same("length() after it", x.length(), length);
            }
            x.read(3);
        }
    }

    private static void readRefusesThe13th() {
        PathOdds x = halving();
        for (int t = 0; t < 12; t++) {
            Due.yes("read(1) when the row has " + t, x.read(1));
        }
        for (int s = -1; s <= 4; s++) {
            Due.no("read(" + s + ") when the row has 12", x.read(s));
            Due.same("length() after it", x.length(), 12);
            Due.exact("total() after it", x.total(), 0x1p-12);
        }
        x.unread();
        Due.yes("read(2) when the row has 11 again", x.read(2));
        Due.exact("total() after it", x.total(), 0x1p-13);
        Due.no("read(2) when the row has 12 again", x.read(2));
    }

    private static void unreadTakesTheLast() {
        PathOdds x = halving();
        int[] row = {1, 0, 2, 3, 0, 1, 3, 3, 2, 1, 0, 2};
        Models.read(x, row);
        double product = x.total();
        for (int length = 11; length >= 0; length--) {
            Due.yes("unread()", x.unread());
            product *= 1 << row[length];
            Due.same("length()", x.length(), length);
            Due.exact("total()", x.total(), product);
        }
        Due.exact("total() of none", product, 1.0);
        x.read(3);
        Due.exact("total() with the weights that stay", x.total(), 0.125);
    }

    private static void unreadRefuses() {
        Due.no("unread() of a new object", new PathOdds().unread());
        PathOdds x = Models.two();
        for (int t = 0; t < 3; t++) {
            Due.yes("unread()", x.unread());
        }
        Due.no("unread() of an emptied row", x.unread());
        Due.no("unread() of an emptied row again", x.unread());
        Due.same("length() after it", x.length(), 0);
        Due.yes("read(1) after it", x.read(1));
        Due.same("length() after read(1)", x.length(), 1);
        x.states(2);
        Due.no("unread() after states", x.unread());
    }

    private static void lengthTells() {
        PathOdds x = new PathOdds();
        for (int length = 0; length <= 12; length++) {
            Due.same("length()", x.length(), length);
            x.read(4);
            Due.same("length() after refused read", x.length(), length);
            x.read(length % 4);
        }
        Due.same("length() after the 13th", x.length(), 12);
        x.states(9);
        Due.same("length() after refused states", x.length(), 12);
        x.unread();
        Due.same("length() after unread", x.length(), 11);
        x.states(1);
        Due.same("length() after states", x.length(), 0);
        x.unread();
        Due.same("length() after refused unread", x.length(), 0);
    }

    private static void tells(String name, PlaceCall call, PathOdds x, double[][] due) {
        for (int t = 0; t < due.length; t++) {
            for (int i = 0; i < due[t].length; i++) {
                final int place = t;
                final int state = i;
                Due.tells(name + "(" + t + ", " + i + ")", () -> call.answer(x, place, state), due[t][i]);
            }
        }
    }

    /** A place that is not in the row is told first, whether the state is there or not. */
    private static void refusesPlaces(String name, PlaceCall call, double weight) {
        for (int length = 0; length <= 12; length++) {
            PathOdds x = Models.even(2, weight, length);
            for (int t : Models.noPlaceOf(length)) {
                refuses(name, call, x, t, 0, Due.INDEX);
                refuses(name, call, x, t, 1, Due.INDEX);
                refuses(name, call, x, t, 2, Due.INDEX);
                refuses(name, call, x, t, -1, Due.INDEX);
                refuses(name, call, x, t, Integer.MAX_VALUE, Due.INDEX);
            }
        }
        PathOdds shorter = Models.even(2, weight, 12);
        shorter.unread();
        refuses(name, call, shorter, 11, 0, Due.INDEX);
        shorter.states(2);
        refuses(name, call, shorter, 0, 0, Due.INDEX);
    }

    private static void refusesStates(String name, PlaceCall call, double weight) {
        for (int n = 1; n <= 6; n++) {
            PathOdds x = Models.even(n, weight, 12);
            for (int i : Models.noStateOf(n)) {
                refuses(name, call, x, 0, i, Due.ARGUMENT);
                refuses(name, call, x, 5, i, Due.ARGUMENT);
                refuses(name, call, x, 11, i, Due.ARGUMENT);
            }
        }
        PathOdds fewer = Models.even(6, weight, 12);
        fewer.states(2);
        fewer.read(0);
        refuses(name, call, fewer, 0, 2, Due.ARGUMENT);
        refuses(name, call, fewer, 0, 5, Due.ARGUMENT);
    }

    private static void refuses(String name, PlaceCall call, PathOdds x, int t, int i, String due) {
        Due.refuses(name + "(" + t + ", " + i + ")", () -> call.answer(x, t, i), due);
    }

    private static void forwardTells() {
        // A(0) = 0.25, 0.25; sums into 1: 0.375, 0.1875; A(1) = 0.09375, 0.09375
        double[][] due = {{0.25, 0.25}, {0.09375, 0.09375}, {0.03515625, 0.03515625}};
        tells("forward", PathOdds::forward, Models.two(), due);
    }

    private static void forwardRefusesPlaces() {
        refusesPlaces("forward", PathOdds::forward, 0.5);
        refusesPlaces("forward", PathOdds::forward, 0.0);
    }

    private static void forwardRefusesStates() {
        refusesStates("forward", PathOdds::forward, 0.5);
        refusesStates("forward", PathOdds::forward, 0.0);
    }

    private static void backwardTells() {
        // from 0: 0.5 * 0.25 + 0.25 * 0.5 = 0.25; from 1: 1.0 * 0.25 + 0.5 * 0.5 = 0.5
        double[][] due = {{0.09375, 0.1875}, {0.25, 0.5}, {1.0, 1.0}};
        tells("backward", PathOdds::backward, Models.two(), due);
    }

    private static void backwardRefusesPlaces() {
        refusesPlaces("backward", PathOdds::backward, 0.5);
        refusesPlaces("backward", PathOdds::backward, 0.0);
    }

    private static void backwardRefusesStates() {
        refusesStates("backward", PathOdds::backward, 0.5);
        refusesStates("backward", PathOdds::backward, 0.0);
    }

    private static void totalTells() {
        Due.exact("total() of two", Models.two().total(), 0.0703125);
        Due.exact("total() of an empty row", Models.even(3, 0.5, 0).total(), 1.0);
        Due.exact("total() above 1", Models.even(6, 1.0, 12).total(), 2176782336.0);
        PathOdds x = new PathOdds();
        x.read(0);
        Due.exact("total() of weights 0", x.total(), 0.0);
        Due.exact("total() that comes out as 0", Models.even(1, 1e-200, 1).total(), 0.0);
    }

    private static void bestTells() {
        // V(1) = 0.0625, 0.0625; V(2) = 0.0625 * 1.0 * 0.25 and 0.0625 * 0.5 * 0.5
        Due.exact("best() of two", Models.two().best(), 0.015625);
        Due.exact("best() of ones", Models.even(6, 1.0, 12).best(), 1.0);
        Due.exact("best() of a half", Models.even(6, 0.5, 12).best(), 0x1p-24);
        for (int greatest = 0; greatest < 6; greatest++) {
            PathOdds x = Models.even(6, 0.5, 1);
            x.start(greatest, 0.75);
            Due.exact("best() in state " + greatest, x.best(), 0.375);
        }
        PathOdds none = Models.states(3);
        none.read(0);
        Due.exact("best() of weights 0", none.best(), 0.0);
        Due.exact("best() that comes out as 0", Models.even(2, 1e-200, 2).best(), 0.0);
    }

    private static void bestOfNone() {
        Due.exact("best() of a new object", new PathOdds().best(), 1.0);
        for (int n = 1; n <= 6; n++) {
            Due.exact("best() of weights 0", Models.states(n).best(), 1.0);
            Due.exact("best() of weights 0.5", Models.even(n, 0.5, 0).best(), 1.0);
        }
        PathOdds x = Models.even(2, 0.5, 1);
        Due.exact("best() of one symbol", x.best(), 0.25);
        x.unread();
        Due.exact("best() of an emptied row", x.best(), 1.0);
        x.read(0);
        x.states(2);
        Due.exact("best() after states", x.best(), 1.0);
    }

    private static void bestStateTells() {
        PathOdds x = Models.two();
        // both V(2) are 0.015625, so it ends in 0; into 0 at 2 from 1, into 1 at 1 from 1 (0.125 over 0.0625)
        int[] due = {1, 1, 0};
        for (int t = 0; t < 3; t++) {
            Due.same("bestState(" + t + ")", x.bestState(t), due[t]);
        }
        PathOdds ring = Models.ring();
        for (int t = 0; t < 12; t++) {
            Due.same("bestState(" + t + ") in the ring", ring.bestState(t), (t + 4) % 6);
        }
    }

    private static void bestStateOfNoPlace() {
        for (int length = 0; length <= 12; length++) {
            PathOdds x = Models.even(2, 0.5, length);
            for (int t : Models.noPlaceOf(length)) {
                Due.same("bestState(" + t + ") of " + length, x.bestState(t), -1);
            }
            for (int t = 0; t < length; t++) {
                Due.same("bestState(" + t + ") of " + length, x.bestState(t), 0);
            }
        }
        PathOdds shorter = Models.ring();
        Due.same("bestState(11)", shorter.bestState(11), 3);
        shorter.unread();
        Due.same("bestState(11) after unread", shorter.bestState(11), -1);
        Due.same("bestState(10) after unread", shorter.bestState(10), 2);
    }

    private static void bestStateWhereBestIs0() {
        PathOdds nothing = Models.states(6);
        for (int t = 0; t < 12; t++) {
            nothing.read(t % 4);
        }
        for (int t = 0; t < 12; t++) {
            Due.same("bestState(" + t + ") of weights 0", nothing.bestState(t), 0);
        }
        Due.same("bestState(12) of weights 0", nothing.bestState(12), -1);
        // The ninth symbol is shown nowhere, so all V(8, j) are 0 and the row ends in state 0; but the way
        // into state 0 is still the greatest one, which comes round the ring.
        PathOdds x = Models.ring();
        for (int t = 0; t < 4; t++) {
            x.unread();
        }
        x.read(2);
        Due.exact("best() of a last symbol shown nowhere", x.best(), 0.0);
        for (int t = 0; t < 9; t++) {
            Due.same("bestState(" + t + ") of a last symbol shown nowhere", x.bestState(t), (t + 4) % 6);
        }
        // One row of states alone is possible, but its product comes out as 0, as do those of all others.
        PathOdds y = Models.states(2);
        y.start(1, 1e-200);
        y.show(1, 0, 1e-200);
        y.read(0);
        Due.exact("best() where the product is 0", y.best(), 0.0);
        Due.same("bestState(0) where the product is 0", y.bestState(0), 0);
        Due.same("bestState(1) where the product is 0", y.bestState(1), -1);
    }

    private static void shareTells() {
        double[][] due = {{1.0 / 3.0, 2.0 / 3.0}, {1.0 / 3.0, 2.0 / 3.0}, {0.5, 0.5}};
        tells("share", PathOdds::share, Models.two(), due);
        double[][] sixths = new double[12][6];
        for (double[] place : sixths) {
            Arrays.fill(place, 1.0 / 6.0);
        }
        tells("share", PathOdds::share, Models.even(6, 1.0, 12), sixths);
        PathOdds ring = Models.ring();
        for (int t = 0; t < 12; t++) {
            for (int i = 0; i < 6; i++) {
                Due.exact("share in the ring", ring.share(t, i), i == (t + 4) % 6 ? 1.0 : 0.0);
            }
        }
    }

    private static void shareWorksItOutInOrder() {
        PathOdds x = Models.states(2);
        for (int i = 0; i < 2; i++) {
            x.start(i, 0.1);
            x.show(i, 0, 1.0);
        }
        x.show(0, 1, 1.0);
        x.move(0, 0, 0.1);
        x.move(1, 0, 0.3);
        Models.read(x, 0, 1);
        double total = 0.1 * 0.1 + 0.1 * 0.3;
        double due = (0.1 * 0.1) / total;
        Due.yes("the order shows", due != 0.1 * (0.1 / total) && due != (0.1 / total) * 0.1);
        Due.exact("total()", x.total(), total);
        Due.exact("share(0, 0)", x.share(0, 0), due);
        // Each product comes out as 0, though the total does not.
        PathOdds y = Models.even(2, 1.0, 1);
        y.start(0, Double.MIN_VALUE);
        y.start(1, Double.MIN_VALUE);
        y.show(0, 1, 0.5);
        y.show(1, 1, 0.0);
        y.read(1);
        Due.exact("total() of the smallest", y.total(), Double.MIN_VALUE);
        Due.exact("share(0, 0) of the smallest", y.share(0, 0), 0.0);
        Due.exact("share(0, 1) of the smallest", y.share(0, 1), 0.0);
        Due.exact("share(1, 0) of the smallest", y.share(1, 0), 1.0);
    }

    private static void shareRefusesPlaces() {
        refusesPlaces("share", PathOdds::share, 0.5);
    }

    private static void shareRefusesStates() {
        refusesStates("share", PathOdds::share, 0.5);
    }

    private static void shareRefusesTotal0() {
        PathOdds x = Models.two();
        x.start(0, 0.0);
        x.start(1, 0.0);
        for (int t = 0; t < 3; t++) {
            refuses("share", PathOdds::share, x, t, 0, Due.ARITHMETIC);
            refuses("share", PathOdds::share, x, t, 1, Due.ARITHMETIC);
        }
        refuses("share of a total that comes out as 0", PathOdds::share, Models.even(1, 1e-200, 1), 0, 0, Due.ARITHMETIC);
        refuses("share of weights -0.0", PathOdds::share, Models.even(3, -0.0, 2), 1, 2, Due.ARITHMETIC);
        PathOdds smallest = Models.even(1, 1.0, 3);
        smallest.start(0, Double.MIN_VALUE);
        Due.tells("share(1, 0) of the smallest total", () -> smallest.share(1, 0), 1.0);
        smallest.start(0, 0.0);
        refuses("share after start", PathOdds::share, smallest, 1, 0, Due.ARITHMETIC);
        smallest.start(0, 0.5);
        Due.tells("share(1, 0) after start again", () -> smallest.share(1, 0), 1.0);
    }

    /** Where the total is 0 too, the place and then the state are still told first. */
    private static void shareRefusesTotal0Last() {
        refusesPlaces("share of total 0", PathOdds::share, 0.0);
        refusesStates("share of total 0", PathOdds::share, 0.0);
    }

    private static void possibleCounts() {
        Due.same("possible() of two", Models.two().possible(), 8L);
        Due.same("possible() in the ring", Models.ring().possible(), 1L);
        for (int n = 1; n <= 6; n++) {
            long rows = 1;
            for (int length = 1; length <= 12; length++) {
                rows *= n;
                Due.same("possible() of " + n + " states", Models.even(n, 0.5, length).possible(), rows);
            }
        }
        Due.same("possible() beyond an int", Models.even(6, 0.5, 12).possible(), 2176782336L);
        PathOdds x = Models.even(3, 1.0, 4);
        x.start(0, 0.0);
        x.move(0, 0, 0.0);
        x.move(1, 1, 0.0);
        x.move(2, 2, 0.0);
        Due.same("possible() without staying", x.possible(), 16L);
        x.show(0, 0, 0.0);
        Due.same("possible() without showing in 0", x.possible(), 2L);
        PathOdds none = new PathOdds();
        none.read(0);
        Due.same("possible() of weights 0", none.possible(), 0L);
    }

    private static void possibleOfNone() {
        Due.same("possible() of a new object", new PathOdds().possible(), 1L);
        for (int n = 1; n <= 6; n++) {
            Due.same("possible() of weights 0", Models.states(n).possible(), 1L);
            Due.same("possible() of weights 0.5", Models.even(n, 0.5, 0).possible(), 1L);
        }
        PathOdds x = Models.even(5, 0.5, 1);
        Due.same("possible() of one symbol", x.possible(), 5L);
        x.unread();
        Due.same("possible() of an emptied row", x.possible(), 1L);
        x.read(0);
        x.states(2);
        Due.same("possible() after states", x.possible(), 1L);
    }
}
