/**
 * A model with hidden states that shows symbols, and what can be said of a row of symbols that it
 * showed. The words are those of the document: S, M and E are the weights, A, B and V the tables.
 */
public final class PathOdds {
    private static final int MOST_STATES = 6;
    private static final int SYMBOLS = 4;
    private static final int LONGEST_ROW = 12;

    private int stateCount = 1;
    private int rowLength = 0;
    private final int[] row = new int[LONGEST_ROW];
    private final double[] startWeights = new double[MOST_STATES];
    private final double[][] moveWeights = new double[MOST_STATES][MOST_STATES];
    private final double[][] showWeights = new double[MOST_STATES][SYMBOLS];

    // Each question fills its table anew from the present weights and row, so no answer can be
    // stale; the tables are made once, so that no call makes an object.
    private final double[][] forwardTable = new double[LONGEST_ROW][MOST_STATES];
    private final double[][] backwardTable = new double[LONGEST_ROW][MOST_STATES];
    private final double[][] bestTable = new double[LONGEST_ROW][MOST_STATES];
    private final int[][] fromTable = new int[LONGEST_ROW][MOST_STATES];
    private final long[][] countTable = new long[LONGEST_ROW][MOST_STATES];

    public PathOdds() {
    }

    public boolean states(int n) {
        if (n < 1 || n > MOST_STATES) {
            return false;
        }
        stateCount = n;
        rowLength = 0;
        clearWeights();
        return true;
    }

    public int size() {
        return stateCount;
    }

    public boolean start(int i, double w) {
        if (!isState(i) || !isWeight(w)) {
            return false;
        }
        startWeights[i] = w;
        return true;
    }

    public boolean move(int i, int j, double w) {
        if (!isState(i) || !isState(j) || !isWeight(w)) {
            return false;
        }
        moveWeights[i][j] = w;
        return true;
    }

    public boolean show(int i, int s, double w) {
        if (!isState(i) || !isSymbol(s) || !isWeight(w)) {
            return false;
        }
        showWeights[i][s] = w;
        return true;
    }

    public boolean read(int s) {
        if (!isSymbol(s) || rowLength >= LONGEST_ROW) {
            return false;
        }
        row[rowLength] = s;
        rowLength++;
        return true;
    }

    public boolean unread() {
        if (rowLength == 0) {
            return false;
        }
        rowLength--;
        return true;
    }

    public int length() {
        return rowLength;
    }

    public double forward(int t, int i) throws IndexOutOfBoundsException, IllegalArgumentException {
        refuseWrongPlace(t, i);
        fillForward();
        return forwardTable[t][i];
    }

    public double backward(int t, int i) throws IndexOutOfBoundsException, IllegalArgumentException {
        refuseWrongPlace(t, i);
        fillBackward();
        return backwardTable[t][i];
    }

    public double total() {
        if (rowLength == 0) {
            return 1.0;
        }
        fillForward();
        return sumAtLast();
    }

    public double best() {
        if (rowLength == 0) {
            return 1.0;
        }
        fillBest();
        return bestTable[rowLength - 1][lowestBestAtLast()];
    }

    public int bestState(int t) {
        if (!isPlace(t)) {
            return -1;
        }
        fillBest();
        int state = lowestBestAtLast();
        for (int u = rowLength - 1; u > t; u--) {
            state = fromTable[u][state];
        }
        return state;
    }

    public double share(int t, int i)
            throws IndexOutOfBoundsException, IllegalArgumentException, ArithmeticException {
        refuseWrongPlace(t, i);
        fillForward();
        double sum = sumAtLast();
        if (sum == 0.0) {
            throw new ArithmeticException("the total is 0");
        }
        fillBackward();
        return (forwardTable[t][i] * backwardTable[t][i]) / sum;
    }

    public long possible() {
        if (rowLength == 0) {
            return 1L;
        }
        fillCounts();
        long count = 0L;
        for (int j = 0; j < stateCount; j++) {
            count += countTable[rowLength - 1][j];
        }
        return count;
    }

    private boolean isState(int i) {
        return i >= 0 && i < stateCount;
    }

    private boolean isPlace(int t) {
        return t >= 0 && t < rowLength;
    }

    private static boolean isSymbol(int s) {
        return s >= 0 && s < SYMBOLS;
    }

    // Asked this way round, NaN is no weight.
    private static boolean isWeight(double w) {
        return w >= 0.0 && w <= 1.0;
    }

    private void refuseWrongPlace(int t, int i) {
        if (!isPlace(t)) {
            throw new IndexOutOfBoundsException("no such place in the row");
        }
        if (!isState(i)) {
            throw new IllegalArgumentException("no such state");
        }
    }

    private void clearWeights() {
        for (int i = 0; i < MOST_STATES; i++) {
            startWeights[i] = 0.0;
            for (int j = 0; j < MOST_STATES; j++) {
                moveWeights[i][j] = 0.0;
            }
            for (int s = 0; s < SYMBOLS; s++) {
                showWeights[i][s] = 0.0;
            }
        }
    }

    private double weightShown(int t, int j) {
        return showWeights[j][row[t]];
    }

    private void fillForward() {
        for (int t = 0; t < rowLength; t++) {
            for (int j = 0; j < stateCount; j++) {
                double reached = t == 0 ? startWeights[j] : sumInto(t, j);
                forwardTable[t][j] = reached * weightShown(t, j);
            }
        }
    }

    private double sumInto(int t, int j) {
        double sum = 0.0;
        for (int i = 0; i < stateCount; i++) {
            sum += forwardTable[t - 1][i] * moveWeights[i][j];
        }
        return sum;
    }

    private double sumAtLast() {
        double sum = 0.0;
        for (int j = 0; j < stateCount; j++) {
            sum += forwardTable[rowLength - 1][j];
        }
        return sum;
    }

    private void fillBackward() {
        for (int t = rowLength - 1; t >= 0; t--) {
            for (int i = 0; i < stateCount; i++) {
                backwardTable[t][i] = t == rowLength - 1 ? 1.0 : sumOutOf(t, i);
            }
        }
    }

    private double sumOutOf(int t, int i) {
        double sum = 0.0;
        for (int j = 0; j < stateCount; j++) {
            sum += moveWeights[i][j] * weightShown(t + 1, j) * backwardTable[t + 1][j];
        }
        return sum;
    }

    private void fillBest() {
        for (int j = 0; j < stateCount; j++) {
            bestTable[0][j] = startWeights[j] * weightShown(0, j);
        }
        for (int t = 1; t < rowLength; t++) {
            for (int j = 0; j < stateCount; j++) {
                int from = lowestBestInto(t, j);
                fromTable[t][j] = from;
                bestTable[t][j] = bestTable[t - 1][from] * moveWeights[from][j] * weightShown(t, j);
            }
        }
    }

    private int lowestBestInto(int t, int j) {
        int from = 0;
        double greatest = bestTable[t - 1][0] * moveWeights[0][j];
        for (int i = 1; i < stateCount; i++) {
            double reached = bestTable[t - 1][i] * moveWeights[i][j];
            if (reached > greatest) {
                from = i;
                greatest = reached;
            }
        }
        return from;
    }

    private int lowestBestAtLast() {
        int last = 0;
        for (int j = 1; j < stateCount; j++) {
            if (bestTable[rowLength - 1][j] > bestTable[rowLength - 1][last]) {
                last = j;
            }
        }
        return last;
    }

    // Counted by the weights' signs and not by products, which may come out as 0 where no weight is.
    private void fillCounts() {
        for (int t = 0; t < rowLength; t++) {
            for (int j = 0; j < stateCount; j++) {
                countTable[t][j] = weightShown(t, j) > 0.0 ? countInto(t, j) : 0L;
            }
        }
    }

    private long countInto(int t, int j) {
        if (t == 0) {
            return startWeights[j] > 0.0 ? 1L : 0L;
        }
        long count = 0L;
        for (int i = 0; i < stateCount; i++) {
            if (moveWeights[i][j] > 0.0) {
                count += countTable[t - 1][i];
            }
        }
        return count;
    }
}
