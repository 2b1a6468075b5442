import java.lang.reflect.Field;

/**
 * Sentences of the document that no run of calls reaches: this dual always has an answer, so no RAY
 * comes, 200 STEPS are never needed, and what is DONE is best. The fields inside the object are set by
 * hand here, so that these branches are tried too. How the state is held is free: where the fields are
 * not those that this test knows, it says so and tries nothing.
 */
public final class ForcedTest {
    private static final int NONE = -1, BAD = -2, NO = -3;

    private static int right = 0;
    private static int wrong = 0;

    public static void main(String[] args) throws ReflectiveOperationException {
        if (!knowsTheFields()) {
            System.out.println("NOTHING TRIED: the state is held in other fields than this test knows");
            return;
        }
        rayWhereNothingIsAboveZero();
        rayOfZeros();
        noRayWhereOneIsAboveZero();
        rayGoes();
        steps200();
        stepsUpTo200();
        doneAtTheLastStep();
        checkAt0();
        checkBetween();
        checkAtTheBox();
        worthMoreOrLess();
        System.out.println(right + " passed, " + wrong + " failed");
        if (wrong != 0) {
            System.exit(1);
        }
    }

    private static void due(String call, long got, long want) {
        if (got == want) {
            right++;
        } else {
            wrong++;
            System.out.println(call + " answered " + got + ", due is " + want);
        }
    }

    private static boolean knowsTheFields() {
        try {
            Class<?> table = MarginTable.class.getDeclaredField("table").getType();
            return table.getDeclaredField("cell").getType() == long[][].class
                && table.getDeclaredField("left").getType() == int[].class
                && table.getDeclaredField("steps").getType() == int.class;
        } catch (NoSuchFieldException e) {
            return false;
        }
    }

    private static Object inside(Object holder, String name) throws ReflectiveOperationException {
        Field field = holder.getClass().getDeclaredField(name);
        field.setAccessible(true);
        return field.get(holder);
    }

    private static void setSteps(MarginTable t, int steps) throws ReflectiveOperationException {
        Object table = inside(t, "table");
        int[] left = (int[]) inside(table, "left");
        int last = t.count(4) - 1;
        left[steps - 1] = left[last];
        Field field = table.getClass().getDeclaredField("steps");
        field.setAccessible(true);
        field.setInt(table, steps);
    }

    private static long[][] cells(MarginTable t) throws ReflectiveOperationException {
        return (long[][]) inside(inside(t, "table"), "cell");
    }

    /** One STEP is made of four, and z(1), in column 5, ENTERS next. */
    private static MarginTable onTheWay() {
        MarginTable t = new MarginTable();
        t.box(20, 1);
        t.point(1, 0, 1);
        t.point(4, 0, 1);
        t.begin();
        t.go(1);
        return t;
    }

    private static MarginTable withColumn(long... column) throws ReflectiveOperationException {
        MarginTable t = onTheWay();
        for (int r = 0; r < column.length; r++) {
            cells(t)[r][5] = column[r];
        }
        return t;
    }

    private static void isRay(MarginTable t) {
        due("count(5) before the RAY is met", t.count(5), 0);
        due("go(60) into a RAY", t.go(60), 2);
        due("count(4): the STEP is none", t.count(4), 1);
        due("count(5) of a RAY", t.count(5), 2);
        due("count(6) of a RAY", t.count(6), NONE);
        due("step(1, 0) of a RAY", t.step(1, 0), NONE);
        due("step(0, 0) before it", t.step(0, 0), 200);
        due("told(1)", t.told(1), 200);
        due("at(1, 9, 0)", t.at(1, 9, 0), 1);
        due("go(1) again", t.go(1), 2);
        due("go(60) again", t.go(60), 2);
        due("go(0) of a RAY", t.go(0), BAD);
        due("go(61) of a RAY", t.go(61), BAD);
        due("count(4) still", t.count(4), 1);
        isNotDone(t);
        long h = 73;
        for (long v : new long[] {2, 1, 20, 1, 1, 2, -1, 1, 0, 1, 4, 0, 1, 200, 1, 1, 0, 0, 0, 0}) {
            h = 31 * h + v;
        }
        due("digest() of a RAY", t.digest(), h);
    }

    private static void isNotDone(MarginTable t) {
        due("multiplier(0, 1)", t.multiplier(0, 1), 0);
        due("lies(0)", t.lies(0), NONE);
        due("slope(0, 1)", t.slope(0, 1), 0);
        due("check()", t.check(), NO);
        due("change(0, 0, 1)", t.change(0, 0, 1), NO);
        due("decision(0, 0, 1)", t.decision(0, 0, 1), 0);
        due("predict(0, 0)", t.predict(0, 0), NO);
    }

    private static void rayWhereNothingIsAboveZero() throws ReflectiveOperationException {
        isRay(withColumn(-1, -17, -1, -18));
    }

    private static void rayOfZeros() throws ReflectiveOperationException {
        isRay(withColumn(0, 0, 0, 0));
        isRay(withColumn(-1, 0, 0, -1));
    }

    private static void noRayWhereOneIsAboveZero() throws ReflectiveOperationException {
        for (int row = 0; row < 4; row++) {
            long[] column = {0, -1, 0, -1};
            column[row] = 1;
            MarginTable t = withColumn(column);
            due("go(1) with 1 in row " + row, t.go(1), row == 1 ? 1 : 0);
            due("its row", t.step(1, 2), row);
        }
    }

    private static void rayGoes() throws ReflectiveOperationException {
        MarginTable t = withColumn(0, 0, 0, 0);
        t.go(1);
        due("begin() behind a RAY", t.begin(), 4);
        due("count(5) behind it", t.count(5), 0);
        due("go(60) behind it", t.go(60), 1);
        MarginTable other = withColumn(0, 0, 0, 0);
        other.go(1);
        other.box(20, 1);
        due("go(1) behind a RAY and box()", other.go(1), NO);
        due("count(5) behind them", other.count(5), NONE);
    }

    private static void steps200() throws ReflectiveOperationException {
        MarginTable t = onTheWay();
        setSteps(t, 200);
        long q = t.at(0, 9, 0);
        for (int n : new int[] {1, 60, 1}) {
            due("go(" + n + ") behind 200 STEPS", t.go(n), 0);
            due("count(4) behind them", t.count(4), 200);
            due("count(5) behind them", t.count(5), 0);
        }
        due("go(61) behind 200 STEPS", t.go(61), BAD);
        due("at(0, 9, 0) behind them", t.at(0, 9, 0), q);
        due("told(1) behind them", t.told(1), 200);
        due("step(200, 0)", t.step(200, 0), NONE);
        isNotDone(t);
        due("begin() behind them", t.begin(), 4);
        due("go(60) behind begin()", t.go(60), 1);
    }

    private static void stepsUpTo200() throws ReflectiveOperationException {
        for (int made = 198; made <= 199; made++) {
            MarginTable t = onTheWay();
            setSteps(t, made);
            due("go(60) from " + made, t.go(60), 0);
            due("count(4) from " + made, t.count(4), 200);
            due("STEP 199 from " + made, t.step(199, 0), made == 198 ? 100 : 101);
            due("its row", t.step(199, 2), 0);
            due("step(200, 0)", t.step(200, 0), NONE);
            due("go(1) then", t.go(1), 0);
        }
    }

    private static void doneAtTheLastStep() throws ReflectiveOperationException {
        MarginTable t = onTheWay();
        setSteps(t, 197);
        due("go(60) from 197", t.go(60), 1);
        due("count(4)", t.count(4), 200);
        due("count(5)", t.count(5), 1);
        due("what LEFT last", t.step(199, 1), 200);
        due("go(1) when DONE with 200 STEPS", t.go(1), 1);
        due("multiplier(0, 1)", t.multiplier(0, 1), 2);
    }

    private static MarginTable withZ(int above, long z) throws ReflectiveOperationException {
        return withZ(above, 2, z);
    }

    /** Q is 1; m(0) is what stands at q, which is set, by BELOW. */
    private static MarginTable withZ(int above, int below, long z) throws ReflectiveOperationException {
        MarginTable t = new MarginTable();
        t.box(above, below);
        t.point(0, 0, 1);
        t.begin();
        t.go(60);
        cells(t)[0][5] = z;
        due("told(0)", t.told(0), 100);
        due("z(0)", t.at(0, 5, 0), z);
        return t;
    }

    private static void checkAt0() throws ReflectiveOperationException {
        MarginTable t = withZ(20, 0);
        due("lies(0) at 0", t.lies(0), 0);
        due("slope(0, 0) above 0", t.slope(0, 0), 1);
        due("check(): a slope above 0 where m(0) is 0", t.check(), 0);
        due("count(6)", t.count(6), 0);
        due("check(): a slope of 1 where m(0) is 0", withZ(1, 1, 0).check(), 0);
    }

    private static void checkBetween() throws ReflectiveOperationException {
        MarginTable less = withZ(20, 1);
        due("lies(0) between", less.lies(0), 1);
        due("slope(0, 0), of 1/2", less.slope(0, 0), 1);
        due("slope(0, 1), of 1/2", less.slope(0, 1), 2);
        due("check(): a slope above 0 between", less.check(), 0);
        due("check(): a slope of 0 between", withZ(20, 2).check(), 1);
        MarginTable more = withZ(20, 3);
        due("slope(0, 0), of -1/2", more.slope(0, 0), -1);
        due("slope(0, 1), of -1/2", more.slope(0, 1), 2);
        due("check(): a slope below 0 between", more.check(), 0);
    }

    private static void checkAtTheBox() throws ReflectiveOperationException {
        MarginTable t = withZ(20, 20);
        due("lies(0) at THE BOX", t.lies(0), 2);
        due("slope(0, 0) of -9", t.slope(0, 0), -9);
        due("check(): a slope below 0 at THE BOX", t.check(), 0);
        due("check(): a slope of 0 at THE BOX", withZ(2, 2).check(), 1);
        due("check(): a slope of -1 at THE BOX", withZ(2, 1, 2).check(), 0);
    }

    /** WORTH is m - m m / 2: the same at 0 and 2, most at 1. */
    private static void worthMoreOrLess() throws ReflectiveOperationException {
        int[][] fromTwo = {{0, 1, 0}, {1, 6, 1}, {1, 1, 1}, {11, 6, 1}, {2, 1, 0}, {4, 2, 0}, {13, 6, -1}, {3, 1, -1}};
        for (int[] c : fromTwo) {
            due("change(0, " + c[0] + ", " + c[1] + ") from 2", withZ(20, 4).change(0, c[0], c[1]), c[2]);
        }
        int[][] fromZero = {{0, 1, 0}, {1, 6, 1}, {1, 1, 1}, {11, 6, 1}, {2, 1, 0}, {13, 6, -1}, {10, 1, -1}};
        for (int[] c : fromZero) {
            due("change(0, " + c[0] + ", " + c[1] + ") from 0", withZ(20, 0).change(0, c[0], c[1]), c[2]);
        }
        due("change(0, 21, 2) from 0", withZ(20, 0).change(0, 21, 2), BAD);
    }
}
