import java.math.BigInteger;
import java.util.ArrayList;
import java.util.List;

/**
 * Long runs of calls, each answer set against a plain model of the document that holds every cell as
 * a fraction of big whole numbers, and WORTH as the sum that the document writes.
 */
public final class ModelTest {
    private static final int MIXED_RUNS = 800;
    /** Each is followed by digest(), and an object is used for 512 calls. */
    private static final int CALLS = 256;
    private static final int TRAINED_RUNS = 3000;

    private static long seed = 20261116;
    private static int right = 0;
    private static int wrong = 0;

    public static void main(String[] args) {
        for (int run = 0; run < MIXED_RUNS && wrong < 20; run++) {
            mixedRun(run);
        }
        for (int run = 0; run < TRAINED_RUNS && wrong < 20; run++) {
            trainedRun(run);
        }
        System.out.println(right + " passed, " + wrong + " failed");
        if (wrong != 0) {
            System.exit(1);
        }
    }

    private static void due(String call, long got, long want) {
        if (got == want) {
            right++;
        } else {
            wrong++;
            System.out.println(call + " answered " + got + ", due is " + want);
        }
    }

    private static int random(int bound) {
        seed = seed * 6364136223846793005L + 1442695040888963407L;
        return (int) ((seed >>> 33) % bound);
    }

    private static int between(int least, int most) {
        return least + random(most - least + 1);
    }

    /** Mostly a number as the document wants it, now and then one beside it or far away. */
    private static int number(int least, int most) {
        int[] odd = {least - 1, most + 1, Integer.MIN_VALUE, Integer.MAX_VALUE};
        return random(12) == 0 ? odd[random(odd.length)] : between(least, most);
    }

    private static int coordinate() {
        return random(3) == 0 ? (random(2) == 0 ? 4 : -4) : number(-4, 4);
    }

    private static int label() {
        return random(15) == 0 ? number(-1, 1) : random(2) * 2 - 1;
    }

    private static void mixedRun(int run) {
        MarginTable real = new MarginTable();
        Model model = new Model();
        for (int call = 0; call < CALLS && wrong < 20; call++) {
            oneCall("mixed run " + run + ", call " + call + ": ", real, model);
            due("mixed run " + run + ", digest() behind call " + call, real.digest(), model.digest());
        }
    }

    private static void oneCall(String at, MarginTable real, Model model) {
        int a = number(0, 5);
        int b = number(0, 6);
        int c = number(0, 1);
        int x = coordinate();
        int y = coordinate();
        String with = "(" + a + ", " + b + ", " + c + ", " + x + ", " + y + ")";
        switch (random(28)) {
            case 0, 1, 2 -> {
                int l = label();
                due(at + "point" + with + l, real.point(x, y, l), model.point(x, y, l));
            }
            case 3 -> due(at + "drop", real.drop(), model.drop());
            case 4 -> {
                int d = number(1, 2);
                due(at + "degree " + d, real.degree(d), model.degree(d));
            }
            case 5 -> {
                int above = number(1, 20);
                int below = number(1, 6);
                due(at + "box " + above + " " + below, real.box(above, below), model.box(above, below));
            }
            case 6 -> due(at + "q" + with, real.q(a, b), model.q(a, b));
            case 7, 8, 9 -> due(at + "begin", real.begin(), model.begin());
            case 10, 11, 12, 13, 14 -> {
                int n = random(2) == 0 ? between(1, 3) : number(1, 60);
                due(at + "go " + n, real.go(n), model.go(n));
            }
            case 15 -> {
                int what = number(0, 2);
                due(at + "step " + what + with, real.step(b, what), model.step(b, what));
            }
            case 16 -> due(at + "told" + with, real.told(b), model.told(b));
            case 17, 18 -> {
                int column = number(0, 25);
                due(at + "at " + column + with, real.at(b, column, c), model.at(b, column, c));
            }
            case 19 -> due(at + "multiplier" + with, real.multiplier(a, c), model.multiplier(a, c));
            case 20 -> due(at + "lies" + with, real.lies(a), model.lies(a));
            case 21 -> due(at + "slope" + with, real.slope(a, c), model.slope(a, c));
            case 22 -> due(at + "check", real.check(), model.check());
            case 23, 24 -> {
                int above = number(0, 20);
                due(at + "change " + above + with, real.change(a, above, b), model.change(a, above, b));
            }
            case 25 -> due(at + "decision" + with, real.decision(x, y, c), model.decision(x, y, c));
            case 26 -> due(at + "predict" + with, real.predict(x, y), model.predict(x, y));
            default -> due(at + "count" + with, real.count(b), model.count(b));
        }
    }

    /** One training to the end, a step at a time, with every cell and every answer looked at. */
    private static void trainedRun(int run) {
        MarginTable real = new MarginTable();
        Model model = new Model();
        int d = run % 3 == 0 ? 1 : 2;
        int corners = random(4);
        real.degree(d);
        model.degree(d);
        int n = between(1, d == 1 ? 6 : 4);
        for (int i = 0; i < n; i++) {
            int x = random(4) < corners ? random(2) * 8 - 4 : between(-4, 4);
            int y = random(4) < corners ? random(2) * 8 - 4 : between(-4, 4);
            int l = random(2) * 2 - 1;
            due("point", real.point(x, y, l), model.point(x, y, l));
        }
        int above = random(2) == 0 ? 20 : between(1, 20);
        int below = between(1, 6);
        due("box", real.box(above, below), model.box(above, below));
        String at = "trained run " + run + ": ";
        due(at + "begin", real.begin(), model.begin());
        for (int step = 0; step < 201 && model.state == 0; step++) {
            sameTable(at, real, model);
            due(at + "go(1)", real.go(1), model.go(1));
        }
        due(at + "it is done", real.count(5), 1);
        sameTable(at, real, model);
        sameAnswers(at, real, model);
    }

    private static void sameTable(String at, MarginTable real, Model model) {
        for (int r = -1; r <= model.rows(); r++) {
            due(at + "told(" + r + ")", real.told(r), model.told(r));
            for (int column = -1; column <= 2 * model.rows() + 2; column++) {
                for (int what = -1; what <= 2; what++) {
                    String call = at + "at(" + r + ", " + column + ", " + what + ")";
                    due(call, real.at(r, column, what), model.at(r, column, what));
                }
            }
        }
    }

    private static void sameAnswers(String at, MarginTable real, Model model) {
        for (int i = -1; i <= 6; i++) {
            due(at + "lies(" + i + ")", real.lies(i), model.lies(i));
            for (int what = -1; what <= 2; what++) {
                due(at + "multiplier(" + i + ")", real.multiplier(i, what), model.multiplier(i, what));
                due(at + "slope(" + i + ")", real.slope(i, what), model.slope(i, what));
            }
            for (int k = 0; k < 30; k++) {
                int above = between(0, 20);
                int below = between(1, 6);
                String call = at + "change(" + i + ", " + above + ", " + below + ")";
                due(call, real.change(i, above, below), model.change(i, above, below));
            }
        }
        for (int x = -5; x <= 5; x++) {
            for (int y = -5; y <= 5; y++) {
                String place = x + ", " + y + ")";
                due(at + "predict(" + place, real.predict(x, y), model.predict(x, y));
                due(at + "decision(" + place, real.decision(x, y, 0), model.decision(x, y, 0));
                due(at + "decision(" + place, real.decision(x, y, 1), model.decision(x, y, 1));
            }
        }
        due(at + "check()", real.check(), model.check());
        due(at + "digest()", real.digest(), model.digest());
    }

    /** A fraction in lowest terms, what is below above 0. */
    private record Fraction(BigInteger above, BigInteger below) {
        static final Fraction ZERO = of(0, 1);
        static final Fraction ONE = of(1, 1);

        static Fraction of(long above, long below) {
            return reduced(BigInteger.valueOf(above), BigInteger.valueOf(below));
        }

        static Fraction reduced(BigInteger above, BigInteger below) {
            BigInteger g = above.gcd(below);
            BigInteger divisor = below.signum() < 0 ? g.negate() : g;
            return new Fraction(above.divide(divisor), below.divide(divisor));
        }

        Fraction plus(Fraction o) {
            return reduced(above.multiply(o.below).add(o.above.multiply(below)), below.multiply(o.below));
        }

        Fraction times(Fraction o) {
            return reduced(above.multiply(o.above), below.multiply(o.below));
        }

        Fraction by(Fraction o) {
            return reduced(above.multiply(o.below), below.multiply(o.above));
        }

        Fraction minus(Fraction o) {
            return plus(new Fraction(o.above.negate(), o.below));
        }

        int sign() {
            return above.signum();
        }

        long part(int what) {
            return (what == 0 ? above : below).longValueExact();
        }
    }

    private record Step(int entered, int left, int row) {
    }

    /** The document, word by word. What a row tells is held as the letter that told() answers. */
    private static final class Model {
        final List<int[]> points = new ArrayList<>();
        final List<Step> steps = new ArrayList<>();
        int degree = 1;
        int above = 1;
        int below = 1;
        int state = -1;
        Fraction[][] table = new Fraction[0][];
        int[] tells = new int[0];

        private void gone() {
            steps.clear();
            state = -1;
            table = new Fraction[0][];
            tells = new int[0];
        }

        private static boolean isIn(int v, int least, int most) {
            return least <= v && v <= most;
        }

        private boolean has(int i) {
            return isIn(i, 0, points.size() - 1);
        }

        int rows() {
            return table.length;
        }

        int point(int x, int y, int label) {
            if (!isIn(x, -4, 4) || !isIn(y, -4, 4) || Math.abs((long) label) != 1) {
                return -2;
            }
            if (points.size() == (degree == 1 ? 6 : 4)) {
                return -4;
            }
            points.add(new int[] {x, y, label});
            gone();
            return points.size() - 1;
        }

        int drop() {
            if (points.isEmpty()) {
                return -3;
            }
            points.remove(points.size() - 1);
            gone();
            return points.size();
        }

        int degree(int d) {
            if (!isIn(d, 1, 2)) {
                return -2;
            }
            if (d == 2 && points.size() > 4) {
                return -3;
            }
            int was = degree;
            degree = d;
            gone();
            return was;
        }

        int box(int a, int b) {
            if (!isIn(a, 1, 20) || !isIn(b, 1, 6)) {
                return -2;
            }
            above = a;
            below = b;
            gone();
            return 1;
        }

        private int kernel(int i, int x, int y) {
            int plain = points.get(i)[0] * x + points.get(i)[1] * y + 1;
            return degree == 2 ? plain * plain : plain;
        }

        int q(int i, int k) {
            if (!has(i) || !has(k)) {
                return 1000000;
            }
            int[] other = points.get(k);
            return points.get(i)[2] * other[2] * kernel(i, other[0], other[1]);
        }

        private int m(int r, int k) {
            int n = points.size();
            if (r < n && k < n) {
                return q(r, k);
            }
            return k == n + r ? 1 : r == n + k ? -1 : 0;
        }

        int begin() {
            int n = points.size();
            if (n == 0) {
                return -3;
            }
            gone();
            state = 0;
            table = new Fraction[2 * n][4 * n + 2];
            tells = new int[2 * n];
            for (int r = 0; r < 2 * n; r++) {
                tells[r] = r;
                for (int k = 0; k < 2 * n; k++) {
                    table[r][k] = r == k ? Fraction.ONE : Fraction.ZERO;
                    table[r][2 * n + k] = Fraction.of(-m(r, k), 1);
                }
                table[r][4 * n] = Fraction.of(-1, 1);
                table[r][4 * n + 1] = Fraction.of(r < n ? -below : above, 1);
            }
            return 2 * n;
        }

        private int column(int letter) {
            return letter == 200 ? 2 * rows() : letter >= 100 ? rows() + letter - 100 : letter;
        }

        /** What the rows are compared by, the column being divided through already. */
        private List<Fraction> key(int r, Fraction divisor) {
            List<Fraction> key = new ArrayList<>();
            key.add(table[r][2 * rows() + 1].by(divisor));
            for (int k = 0; k < rows(); k++) {
                key.add(table[r][k].by(divisor));
            }
            return key;
        }

        private static boolean isLess(List<Fraction> one, List<Fraction> other) {
            for (int k = 0; k < one.size(); k++) {
                int sign = one.get(k).minus(other.get(k)).sign();
                if (sign != 0) {
                    return sign < 0;
                }
            }
            throw new IllegalStateException("two rows are the same");
        }

        private int leastRow(int letter) {
            int least = -1;
            List<Fraction> leastKey = null;
            for (int r = 0; r < rows(); r++) {
                Fraction divisor = letter == 200 ? Fraction.ONE : table[r][column(letter)];
                if (divisor.sign() <= 0) {
                    continue;
                }
                List<Fraction> key = key(r, divisor);
                if (leastKey == null || isLess(key, leastKey)) {
                    least = r;
                    leastKey = key;
                }
            }
            return least;
        }

        private void turn(int row, int column) {
            Fraction pivot = table[row][column];
            for (int k = 0; k < table[row].length; k++) {
                table[row][k] = table[row][k].by(pivot);
            }
            for (int r = 0; r < rows(); r++) {
                Fraction factor = table[r][column];
                for (int k = 0; k < table[r].length && r != row; k++) {
                    table[r][k] = table[r][k].minus(factor.times(table[row][k]));
                }
            }
        }

        int go(int n) {
            if (!isIn(n, 1, 60)) {
                return -2;
            }
            if (state == -1) {
                return -3;
            }
            for (int k = 0; k < n && state == 0 && steps.size() < 200; k++) {
                int left = steps.isEmpty() ? -1 : steps.get(steps.size() - 1).left;
                int enters = steps.isEmpty() ? 200 : left >= 100 ? left - 100 : left + 100;
                int row = leastRow(enters);
                if (row == -1) {
                    state = 2;
                } else {
                    steps.add(new Step(enters, tells[row], row));
                    state = tells[row] == 200 ? 1 : 0;
                    turn(row, column(enters));
                    tells[row] = enters;
                }
            }
            return state;
        }

        int step(int i, int what) {
            if (!isIn(what, 0, 2)) {
                return -2;
            }
            if (!isIn(i, 0, steps.size() - 1)) {
                return -1;
            }
            Step s = steps.get(i);
            return what == 0 ? s.entered : what == 1 ? s.left : s.row;
        }

        int told(int r) {
            return isIn(r, 0, rows() - 1) ? tells[r] : -1;
        }

        long at(int r, int column, int what) {
            boolean is = isIn(r, 0, rows() - 1) && isIn(column, 0, 2 * rows() + 1) && isIn(what, 0, 1);
            return is ? table[r][column].part(what) : 0;
        }

        private Fraction m(int i) {
            for (int r = 0; r < rows(); r++) {
                if (tells[r] == 100 + i) {
                    return table[r][2 * rows() + 1].by(Fraction.of(below, 1));
                }
            }
            return Fraction.ZERO;
        }

        long multiplier(int i, int what) {
            return state == 1 && has(i) && isIn(what, 0, 1) ? m(i).part(what) : 0;
        }

        int lies(int i) {
            if (!has(i)) {
                return -2;
            }
            if (state != 1) {
                return -1;
            }
            return m(i).sign() == 0 ? 0 : m(i).equals(Fraction.of(above, below)) ? 2 : 1;
        }

        private Fraction slope(int i) {
            Fraction sum = Fraction.ONE;
            for (int k = 0; k < points.size(); k++) {
                sum = sum.minus(Fraction.of(q(i, k), 1).times(m(k)));
            }
            return sum;
        }

        long slope(int i, int what) {
            return state == 1 && has(i) && isIn(what, 0, 1) ? slope(i).part(what) : 0;
        }

        int check() {
            if (state != 1) {
                return -3;
            }
            for (int i = 0; i < points.size(); i++) {
                int sign = slope(i).sign();
                int place = lies(i);
                if (place == 0 && sign > 0 || place == 1 && sign != 0 || place == 2 && sign < 0) {
                    return 0;
                }
            }
            return 1;
        }

        private static Fraction worth(Fraction[] m, Model model) {
            Fraction sum = Fraction.ZERO;
            for (int i = 0; i < m.length; i++) {
                sum = sum.plus(m[i]);
                for (int k = 0; k < m.length; k++) {
                    sum = sum.minus(m[i].times(m[k]).times(Fraction.of(model.q(i, k), 2)));
                }
            }
            return sum;
        }

        int change(int i, int a, int b) {
            if (!has(i) || !isIn(b, 1, 6) || a < 0 || Fraction.of(a, b).minus(Fraction.of(above, below)).sign() > 0) {
                return -2;
            }
            if (state != 1) {
                return -3;
            }
            Fraction[] m = new Fraction[points.size()];
            for (int k = 0; k < m.length; k++) {
                m[k] = m(k);
            }
            Fraction before = worth(m, this);
            m[i] = Fraction.of(a, b);
            return worth(m, this).minus(before).sign();
        }

        private Fraction decision(int x, int y) {
            Fraction sum = Fraction.ZERO;
            for (int i = 0; i < points.size(); i++) {
                sum = sum.plus(m(i).times(Fraction.of(points.get(i)[2] * kernel(i, x, y), 1)));
            }
            return sum;
        }

        long decision(int x, int y, int what) {
            boolean is = state == 1 && isIn(x, -4, 4) && isIn(y, -4, 4) && isIn(what, 0, 1);
            return is ? decision(x, y).part(what) : 0;
        }

        int predict(int x, int y) {
            if (!isIn(x, -4, 4) || !isIn(y, -4, 4)) {
                return -2;
            }
            return state == 1 ? decision(x, y).sign() : -3;
        }

        int count(int what) {
            return switch (what) {
                case 0 -> points.size();
                case 1 -> degree;
                case 2 -> above;
                case 3 -> below;
                case 4 -> steps.size();
                case 5 -> state;
                case 6 -> supporters();
                default -> -2;
            };
        }

        private int supporters() {
            int found = 0;
            for (int i = 0; i < points.size(); i++) {
                found += m(i).sign() > 0 ? 1 : 0;
            }
            return state == 1 ? found : -1;
        }

        long digest() {
            List<Long> values = new ArrayList<>();
            for (int what = 0; what <= 6; what++) {
                values.add((long) count(what));
            }
            for (int[] p : points) {
                values.addAll(List.of((long) p[0], (long) p[1], (long) p[2]));
            }
            for (Step s : steps) {
                values.addAll(List.of((long) s.entered, (long) s.left, (long) s.row));
            }
            for (int i = 0; i < points.size(); i++) {
                values.addAll(List.of(multiplier(i, 0), multiplier(i, 1)));
            }
            long h = 73;
            for (long v : values) {
                h = 31 * h + v;
            }
            return h;
        }
    }
}
