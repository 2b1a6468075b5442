/**
 * A trainer of soft margins with kernels, exactly: the dual in a box, laid as a table of
 * complements and turned by Lemke's rule in whole numbers.
 */
public final class MarginTable {
    public static final int NONE = -1, BAD = -2, NO = -3, FULL = -4;

    private static final int NO_SUCH_Q = 1000000;
    private static final int MOST_ABOVE = 20;
    private static final int MOST_BELOW = 6;
    private static final int MOST_STEPS_A_CALL = 60;
    private static final int COUNTS = 7;

    private final Points points;
    private final Table table;
    private int boxAbove;
    private int boxBelow;

    public MarginTable() {
        points = new Points();
        table = new Table();
        boxAbove = 1;
        boxBelow = 1;
    }

    public int point(int x, int y, int label) {
        if (!Points.isPlace(x, y) || (label != 1 && label != -1)) {
            return BAD;
        }
        if (points.size >= Points.mostWith(points.power)) {
            return FULL;
        }
        points.add(x, y, label);
        table.forget();
        return points.size - 1;
    }

    public int drop() {
        if (points.size == 0) {
            return NO;
        }
        points.size--;
        table.forget();
        return points.size;
    }

    public int degree(int d) {
        if (d != 1 && d != 2) {
            return BAD;
        }
        if (points.size > Points.mostWith(d)) {
            return NO;
        }
        int before = points.power;
        points.power = d;
        table.forget();
        return before;
    }

    public int box(int above, int below) {
        if (above < 1 || above > MOST_ABOVE || below < 1 || below > MOST_BELOW) {
            return BAD;
        }
        boxAbove = above;
        boxBelow = below;
        table.forget();
        return 1;
    }

    public int q(int i, int k) {
        return points.has(i) && points.has(k) ? points.product(i, k) : NO_SUCH_Q;
    }

    public int begin() {
        if (points.size == 0) {
            return NO;
        }
        table.lay(points, boxAbove, boxBelow);
        return table.rows;
    }

    public int go(int n) {
        if (n < 1 || n > MOST_STEPS_A_CALL) {
            return BAD;
        }
        if (table.state == NONE) {
            return NO;
        }
        for (int k = 0; k < n && table.mayStep(); k++) {
            table.makeStep();
        }
        return table.state;
    }

    public int step(int i, int what) {
        if (what < 0 || what > 2) {
            return BAD;
        }
        if (i < 0 || i >= table.steps) {
            return NONE;
        }
        if (what == 2) {
            return table.turnedAt[i];
        }
        return table.letter(what == 0 ? table.entered[i] : table.left[i]);
    }

    public int told(int r) {
        return table.hasRow(r) ? table.letter(table.tells[r]) : NONE;
    }

    public long at(int r, int column, int what) {
        if (!table.hasRow(r) || !table.hasColumn(column) || !isPart(what)) {
            return 0;
        }
        return Whole.part(table.cell[r][column], table.scale, what);
    }

    public long multiplier(int i, int what) {
        if (!isDone() || !points.has(i) || !isPart(what)) {
            return 0;
        }
        return Whole.part(share(i), shareBase(), what);
    }

    public int lies(int i) {
        if (!points.has(i)) {
            return BAD;
        }
        return isDone() ? placeInBox(i) : NONE;
    }

    public long slope(int i, int what) {
        if (!isDone() || !points.has(i) || !isPart(what)) {
            return 0;
        }
        return Whole.part(slopeShare(i), shareBase(), what);
    }

    public int check() {
        if (!isDone()) {
            return NO;
        }
        for (int i = 0; i < points.size; i++) {
            if (!holdsCondition(i)) {
                return 0;
            }
        }
        return 1;
    }

    public int change(int i, int above, int below) {
        if (!points.has(i) || !isInBox(above, below)) {
            return BAD;
        }
        return isDone() ? worthSign(i, above, below) : NO;
    }

    public long decision(int x, int y, int what) {
        if (!isDone() || !Points.isPlace(x, y) || !isPart(what)) {
            return 0;
        }
        return Whole.part(decisionShare(x, y), shareBase(), what);
    }

    public int predict(int x, int y) {
        if (!Points.isPlace(x, y)) {
            return BAD;
        }
        return isDone() ? Long.signum(decisionShare(x, y)) : NO;
    }

    public int count(int what) {
        switch (what) {
            case 0: return points.size;
            case 1: return points.power;
            case 2: return boxAbove;
            case 3: return boxBelow;
            case 4: return table.steps;
            case 5: return table.state;
            case 6: return isDone() ? supporters() : NONE;
            default: return BAD;
        }
    }

    public long digest() {
        long h = 73;
        for (int what = 0; what < COUNTS; what++) {
            h = 31 * h + count(what);
        }
        for (int i = 0; i < points.size; i++) {
            h = 31 * h + points.x[i];
            h = 31 * h + points.y[i];
            h = 31 * h + points.label[i];
        }
        for (int i = 0; i < table.steps; i++) {
            for (int what = 0; what <= 2; what++) {
                h = 31 * h + step(i, what);
            }
        }
        for (int i = 0; i < points.size; i++) {
            h = 31 * h + multiplier(i, 0);
            h = 31 * h + multiplier(i, 1);
        }
        return h;
    }

    private static boolean isPart(int what) {
        return what == 0 || what == 1;
    }

    private boolean isDone() {
        return table.state == Table.DONE;
    }

    /** m(i) is share(i) by shareBase(): one base for all, so that sums need no common divisor. */
    private long share(int i) {
        return table.shareOfZ(i);
    }

    private long shareBase() {
        return table.scale * boxBelow;
    }

    /** The share that a multiplier has at the end of the box: boxAbove / boxBelow by shareBase(). */
    private long fullShare() {
        return table.scale * boxAbove;
    }

    private int placeInBox(int i) {
        long share = share(i);
        if (share == 0) {
            return 0;
        }
        return share == fullShare() ? 2 : 1;
    }

    private long slopeShare(int i) {
        long sum = shareBase();
        for (int k = 0; k < points.size; k++) {
            sum -= points.product(i, k) * share(k);
        }
        return sum;
    }

    private boolean holdsCondition(int i) {
        long slope = slopeShare(i);
        int place = placeInBox(i);
        if (place == 0) {
            return slope <= 0;
        }
        return place == 2 ? slope >= 0 : slope == 0;
    }

    private boolean isInBox(int above, int below) {
        if (above < 0 || below < 1 || below > MOST_BELOW) {
            return false;
        }
        return (long) above * boxBelow <= (long) boxAbove * below;
    }

    /**
     * With d the difference of m(i), WORTH grows by d (slope - d Q(i, i) / 2); the sign of that is
     * the sign of d times the sign of the bracket, both brought to the base shareBase() times below.
     */
    private int worthSign(int i, int above, int below) {
        long difference = above * shareBase() - share(i) * below;
        long bracket = 2 * below * slopeShare(i) - difference * points.product(i, i);
        return Long.signum(difference) * Long.signum(bracket);
    }

    private long decisionShare(int x, int y) {
        long sum = 0;
        for (int i = 0; i < points.size; i++) {
            sum += share(i) * points.label[i] * points.kernel(i, x, y);
        }
        return sum;
    }

    private int supporters() {
        int found = 0;
        for (int i = 0; i < points.size; i++) {
            if (share(i) > 0) {
                found++;
            }
        }
        return found;
    }

    /** The points with their labels, and the kernel over them. */
    private static final class Points {
        static final int MOST = 6;
        static final int MOST_WITH_SQUARES = 4;
        static final int EDGE = 4;

        final int[] x = new int[MOST];
        final int[] y = new int[MOST];
        final int[] label = new int[MOST];
        int size = 0;
        int power = 1;

        static boolean isPlace(int x, int y) {
            return x >= -EDGE && x <= EDGE && y >= -EDGE && y <= EDGE;
        }

        static int mostWith(int power) {
            return power == 1 ? MOST : MOST_WITH_SQUARES;
        }

        boolean has(int i) {
            return i >= 0 && i < size;
        }

        void add(int newX, int newY, int newLabel) {
            x[size] = newX;
            y[size] = newY;
            label[size] = newLabel;
            size++;
        }

        int kernel(int i, int otherX, int otherY) {
            int plain = x[i] * otherX + y[i] * otherY + 1;
            return power == 1 ? plain : plain * plain;
        }

        int product(int i, int k) {
            return label[i] * label[k] * kernel(i, x[k], y[k]);
        }
    }

    /**
     * The table of complements. A cell holds a whole number, and what stands there is cell / scale
     * with one scale above 0 for all of them. Each cell, and the scale, is a minor of the table as it
     * was laid: below 2^51 at the document's limits, so it fits a long, but a product of two does not.
     * Columns: w from 0, z from rows, then y, then q.
     */
    private static final class Table {
        static final int MOST_ROWS = 2 * Points.MOST;
        static final int MOST_COLUMNS = 2 * MOST_ROWS + 2;
        static final int MOST_STEPS = 200;
        static final int NOT_YET = 0;
        static final int DONE = 1;
        static final int RAY = 2;
        static final int LETTER_OF_Z = 100;
        static final int LETTER_OF_Y = 200;

        final long[][] cell = new long[MOST_ROWS][MOST_COLUMNS];
        final int[] tells = new int[MOST_ROWS];
        final int[] entered = new int[MOST_STEPS];
        final int[] left = new int[MOST_STEPS];
        final int[] turnedAt = new int[MOST_STEPS];
        int rows = 0;
        int steps = 0;
        int state = NONE;
        long scale = 1;

        void forget() {
            rows = 0;
            steps = 0;
            state = NONE;
        }

        boolean hasRow(int r) {
            return r >= 0 && r < rows;
        }

        boolean hasColumn(int column) {
            return column >= 0 && column <= columnOfQ();
        }

        int columnOfY() {
            return 2 * rows;
        }

        int columnOfQ() {
            return 2 * rows + 1;
        }

        int letter(int column) {
            if (column < rows) {
                return column;
            }
            return column < columnOfY() ? LETTER_OF_Z + column - rows : LETTER_OF_Y;
        }

        int complement(int column) {
            return column < rows ? column + rows : column - rows;
        }

        void lay(Points points, int above, int below) {
            int n = points.size;
            rows = 2 * n;
            steps = 0;
            state = NOT_YET;
            scale = 1;
            for (int r = 0; r < rows; r++) {
                tells[r] = r;
                for (int k = 0; k < rows; k++) {
                    cell[r][k] = k == r ? 1 : 0;
                    cell[r][rows + k] = -matrix(points, r, k);
                }
                cell[r][columnOfY()] = -1;
                cell[r][columnOfQ()] = r < n ? -below : above;
            }
        }

        static int matrix(Points points, int r, int k) {
            int n = points.size;
            if (r < n && k < n) {
                return points.product(r, k);
            }
            if (k == n + r) {
                return 1;
            }
            return r == n + k ? -1 : 0;
        }

        /** What z(i) is, times scale. */
        long shareOfZ(int i) {
            for (int r = 0; r < rows; r++) {
                if (tells[r] == rows + i) {
                    return cell[r][columnOfQ()];
                }
            }
            return 0;
        }

        boolean mayStep() {
            return state == NOT_YET && steps < MOST_STEPS;
        }

        void makeStep() {
            int column = steps == 0 ? columnOfY() : complement(left[steps - 1]);
            int row = leastRow(column);
            if (row == NONE) {
                state = RAY;
                return;
            }
            entered[steps] = column;
            left[steps] = tells[row];
            turnedAt[steps] = row;
            steps++;
            if (tells[row] == columnOfY()) {
                state = DONE;
            }
            turn(row, column);
            tells[row] = column;
        }

        int leastRow(int column) {
            int least = NONE;
            for (int r = 0; r < rows; r++) {
                if (weight(r, column) > 0 && (least == NONE || isLess(r, least, column))) {
                    least = r;
                }
            }
            return least;
        }

        /** By what a row is divided when rows are compared: 1 in each for the first step. */
        long weight(int r, int column) {
            return steps == 0 ? 1 : cell[r][column];
        }

        boolean isLess(int r, int s, int column) {
            long ofR = weight(r, column);
            long ofS = weight(s, column);
            int sign = Whole.crossSign(cell[r][columnOfQ()], ofS, cell[s][columnOfQ()], ofR);
            for (int k = 0; k < rows && sign == 0; k++) {
                sign = Whole.crossSign(cell[r][k], ofS, cell[s][k], ofR);
            }
            return sign < 0;
        }

        /**
         * The row keeps its whole numbers and its cell at the column becomes the new scale: this
         * divides it. In all others the old scale divides what comes out without a rest.
         */
        void turn(int row, int column) {
            if (cell[row][column] < 0) {
                negate(row);
            }
            int shift = Long.numberOfTrailingZeros(scale);
            long inverse = Whole.inverseOfOdd(scale >> shift);
            for (int r = 0; r < rows; r++) {
                if (r != row) {
                    takeOut(r, row, column, shift, inverse);
                }
            }
            scale = cell[row][column];
        }

        void negate(int row) {
            for (int k = 0; k <= columnOfQ(); k++) {
                cell[row][k] = -cell[row][k];
            }
        }

        void takeOut(int r, int row, int column, int shift, long inverse) {
            long[] from = cell[r];
            long[] taken = cell[row];
            long pivot = taken[column];
            long factor = from[column];
            for (int k = 0; k <= columnOfQ(); k++) {
                long high = Whole.crossHigh(pivot, from[k], factor, taken[k]);
                long low = pivot * from[k] - factor * taken[k];
                from[k] = Whole.shiftedLow(high, low, shift) * inverse;
            }
        }
    }

    /** Whole numbers: fractions in lowest terms, and a b - c d in 128 bits, as a high and a low long. */
    private static final class Whole {
        static final long LOW_HALF = 0xFFFFFFFFL;
        static final int MOST_ROUNDS = 100;
        static final int DOUBLINGS = 5;

        /** Of above / below (below above 0) in lowest terms: above for 0, else below. */
        static long part(long above, long below, int what) {
            long chosen = what == 0 ? above : below;
            long divisor = commonDivisor(Math.abs(above), below);
            return divisor > 1 ? chosen / divisor : chosen;
        }

        /** Two longs need at most 92 rounds. */
        static long commonDivisor(long a, long b) {
            for (int round = 0; round < MOST_ROUNDS && b != 0; round++) {
                long rest = a % b;
                a = b;
                b = rest;
            }
            return a;
        }

        static int crossSign(long a, long b, long c, long d) {
            long high = crossHigh(a, b, c, d);
            if (high != 0) {
                return Long.signum(high);
            }
            return a * b == c * d ? 0 : 1;
        }

        static long crossHigh(long a, long b, long c, long d) {
            long borrow = Long.compareUnsigned(a * b, c * d) < 0 ? 1 : 0;
            return highOfProduct(a, b) - highOfProduct(c, d) - borrow;
        }

        static long highOfProduct(long a, long b) {
            long aLow = a & LOW_HALF;
            long aHigh = a >> 32;
            long bLow = b & LOW_HALF;
            long bHigh = b >> 32;
            long middle = aHigh * bLow + (aLow * bLow >>> 32);
            long other = aLow * bHigh + (middle & LOW_HALF);
            return aHigh * bHigh + (middle >> 32) + (other >> 32);
        }

        static long shiftedLow(long high, long low, int shift) {
            return shift == 0 ? low : low >>> shift | high << 64 - shift;
        }

        /**
         * The number whose product with an odd one is 1 in 64 bits: a product with it is a division
         * that has no rest. An odd number is its own inverse in 3 bits, and each round doubles them.
         */
        static long inverseOfOdd(long odd) {
            long inverse = odd;
            for (int round = 0; round < DOUBLINGS; round++) {
                inverse *= 2 - odd * inverse;
            }
            return inverse;
        }
    }
}
