import java.math.BigInteger;
import java.util.ArrayList;
import java.util.List;

/**
 * The document read sentence by sentence: each sentence that names a boundary (too small, too large,
 * empty, full, a wrap-around, a refused call) has a method of its own, which quotes it. What no run
 * of calls can reach (a RAY, 200 STEPS, CONDITIONS that do not hold) is in ForcedTest.
 */
public final class EdgesTest {
    private static final int NONE = -1, BAD = -2, NO = -3, FULL = -4;
    private static final int LEAST = Integer.MIN_VALUE, MOST = Integer.MAX_VALUE;
    private static final int MOST_CALLS = 512;

    private static final int NEW = 0, WITH_POINTS = 1, LAID = 2, ON_THE_WAY = 3, DONE = 4;
    private static final int[] STATES = {NEW, WITH_POINTS, LAID, ON_THE_WAY, DONE};

    private static String sentence = "";
    private static int right = 0;
    private static int wrong = 0;

    public static void main(String[] args) {
        terms();
        theTable();
        theSteps();
        changes();
        training();
        answers();
        System.out.println(right + " passed, " + wrong + " failed");
        if (wrong != 0) {
            System.exit(1);
        }
    }

    private static void terms() {
        objectOf512Calls();
        constants();
        pointsAreNumberedAsTheyCome();
        placesFromMinus4To4();
        labelsAre1AndMinus1();
        degreeIs1AtFirst();
        sixPointsWithDegree1();
        fourPointsWithDegree2();
        boxFrom1To20By1To6();
        boxIs1By1AtFirst();
        multipliersFrom0ToTheBox();
        fractionsInLowestTerms();
        refusedChangingNothing();
        firstOfBadNoFull();
    }

    private static void theTable() {
        rowsAndColumns();
        rowTellsItsWAtFirst();
        tableAtFirst();
        matrixAtItsBorders();
        qAtTheBorderOfRows();
    }

    private static void theSteps() {
        turnLeavesOneInTheColumn();
        turnsWorkedByHand();
        rowsStayEquations();
        numbersBeyond32Bits();
        stepZero();
        tiesAtQ();
        tiesByRows();
        complementEnters();
        onlyRowsAboveZero();
        doneWhenYLeft();
        multiplierIsZByBelow();
    }

    private static void changes() {
        newObject();
        pointAnswersItsNumber();
        whatWasBegunGoes();
        dropTakesTheLast();
        dropOfNone();
        degreeAnswersWhichItWas();
        degreeOfTooMany();
        boxAnswers1();
        qOfNoPoint();
        qAtTheEnds();
    }

    private static void training() {
        beginAnew();
        beginOfNoPoint();
        goFrom1To60();
        goUpToN();
        goWhenDone();
        goWithoutBegin();
        stepsTold();
        stepOfNone();
        stepBadWhat();
        lettersTold();
        toldOfNone();
        atOfNone();
    }

    private static void answers() {
        multiplierOnlyWhenDone();
        liesAtItsThreePlaces();
        liesOfNone();
        slopeOnlyWhenDone();
        conditionsAtTheirEnds();
        checkOnlyWhenDone();
        changeToTheSame();
        changeOutsideTheBox();
        changeBelowFrom1To6();
        changeWrapsNowhere();
        changeOnlyWhenDone();
        decisionFromMinus4To4();
        decisionOnlyWhenDone();
        predictsThreeSigns();
        predictOnlyWhenDone();
        countFrom0To6();
        countOfWhatWasBegun();
        digestOfEmpty();
        digestByItsParts();
        digestWrapsIn64Bits();
    }

    private static void says(String words) {
        sentence = words;
    }

    private static void due(String call, long got, long want) {
        if (got == want) {
            right++;
        } else {
            wrong++;
            System.out.println("\"" + sentence + "\": " + call + " answered " + got + ", due is " + want);
        }
    }

    private static void fraction(String call, long above, long below, long wantAbove, long wantBelow) {
        due(call + ", above", above, wantAbove);
        due(call + ", below", below, wantBelow);
    }

    private static MarginTable with(int degree, int above, int below, int[]... points) {
        MarginTable t = new MarginTable();
        t.degree(degree);
        t.box(above, below);
        for (int[] p : points) {
            t.point(p[0], p[1], p[2]);
        }
        return t;
    }

    private static MarginTable inState(MarginTable t, int state) {
        if (state >= LAID) {
            t.begin();
        }
        if (state >= ON_THE_WAY) {
            t.go(1);
        }
        if (state >= DONE) {
            t.go(60);
        }
        return t;
    }

    /** Q is 2, 5; 5, 17: m is 1/2, 0 in a box of 1/2 and more. It takes four STEPS. */
    private static MarginTable nearAndFar(int above, int below, int state) {
        return inState(with(1, above, below, new int[] {1, 0, 1}, new int[] {4, 0, 1}), state);
    }

    /** Q is 1: m is 1, or THE BOX if that is less. */
    private static MarginTable atOrigin(int above, int below, int state) {
        return inState(with(1, above, below, new int[] {0, 0, 1}), state);
    }

    private static MarginTable six(int state) {
        return inState(with(1, 20, 6, new int[] {1, 2, 1}, new int[] {-4, 0, -1}, new int[] {3, 3, 1},
            new int[] {0, -1, -1}, new int[] {4, -4, 1}, new int[] {0, 0, -1}), state);
    }

    private static MarginTable fourWithSquares(int state) {
        return inState(with(2, 7, 2, new int[] {4, 4, 1}, new int[] {-4, -4, -1}, new int[] {1, -2, 1},
            new int[] {0, 3, -1}), state);
    }

    private static void objectOf512Calls() {
        says("An object is used for at most 512 calls after it has been made");
        MarginTable t = new MarginTable();
        int calls = 0;
        while (calls + 8 <= MOST_CALLS) {
            due("point(0, 0, 1)", t.point(0, 0, 1), 0);
            due("point(1, 0, -1)", t.point(1, 0, -1), 1);
            due("begin()", t.begin(), 4);
            due("go(60)", t.go(60), 1);
            due("check()", t.check(), 1);
            due("drop()", t.drop(), 1);
            due("drop()", t.drop(), 0);
            due("go(60) of nothing", t.go(60), NO);
            calls += 8;
        }
        due("calls", calls, MOST_CALLS);
    }

    private static void constants() {
        says("NONE = -1, BAD = -2, NO = -3, FULL = -4");
        due("NONE", MarginTable.NONE, -1);
        due("BAD", MarginTable.BAD, -2);
        due("NO", MarginTable.NO, -3);
        due("FULL", MarginTable.FULL, -4);
    }

    private static void pointsAreNumberedAsTheyCome() {
        says("POINTS, numbered from 0 on as they come");
        MarginTable t = new MarginTable();
        for (int i = 0; i < 6; i++) {
            due("point(" + i + " - 2, 0, 1)", t.point(i - 2, 0, 1), i);
            due("q(" + i + ", " + i + ")", t.q(i, i), (i - 2) * (i - 2) + 1);
        }
    }

    private static void placesFromMinus4To4() {
        says("POINTS have x, y (-4 .. 4)");
        for (int v = -4; v <= 4; v++) {
            due("point(" + v + ", 0, 1)", new MarginTable().point(v, 0, 1), 0);
            due("point(0, " + v + ", 1)", new MarginTable().point(0, v, 1), 0);
        }
        for (int v : new int[] {-5, 5, LEAST, LEAST + 4, MOST, 252, -260}) {
            due("point(" + v + ", 0, 1)", new MarginTable().point(v, 0, 1), BAD);
            due("point(0, " + v + ", 1)", new MarginTable().point(0, v, 1), BAD);
        }
        due("point(4, -4, 1)", new MarginTable().point(4, -4, 1), 0);
        due("point(-4, 4, -1)", new MarginTable().point(-4, 4, -1), 0);
    }

    private static void labelsAre1AndMinus1() {
        says("and a LABEL (1, -1)");
        due("point(0, 0, 1)", new MarginTable().point(0, 0, 1), 0);
        due("point(0, 0, -1)", new MarginTable().point(0, 0, -1), 0);
        for (int label : new int[] {0, 2, -2, LEAST, LEAST + 1, MOST, 257, 255}) {
            due("point(0, 0, " + label + ")", new MarginTable().point(0, 0, label), BAD);
        }
    }

    private static void degreeIs1AtFirst() {
        says("to the DEGREE (1 at first, 2)");
        MarginTable t = new MarginTable();
        due("count(1)", t.count(1), 1);
        t.point(3, 1, 1);
        due("q(0, 0)", t.q(0, 0), 11);
        due("degree(2)", t.degree(2), 1);
        due("q(0, 0) of squares", t.q(0, 0), 121);
        for (int d : new int[] {0, 3, -1, -2, LEAST, MOST, 258, 257}) {
            due("degree(" + d + ")", t.degree(d), BAD);
        }
        due("count(1) behind them", t.count(1), 2);
    }

    private static void sixPointsWithDegree1() {
        says("there may be 6 POINTS with DEGREE 1");
        MarginTable t = with(1, 1, 1, new int[] {0, 0, 1}, new int[] {0, 0, 1}, new int[] {0, 0, 1},
            new int[] {0, 0, 1}, new int[] {0, 0, 1});
        due("the sixth", t.point(1, 1, 1), 5);
        due("the seventh", t.point(1, 1, 1), FULL);
        due("count(0)", t.count(0), 6);
        t.drop();
        due("the sixth again", t.point(2, 2, 1), 5);
        due("the seventh again", t.point(2, 2, 1), FULL);
    }

    private static void fourPointsWithDegree2() {
        says("4 with 2");
        MarginTable t = with(2, 1, 1, new int[] {0, 0, 1}, new int[] {0, 0, 1}, new int[] {0, 0, 1});
        due("the fourth", t.point(1, 1, 1), 3);
        due("the fifth", t.point(1, 1, 1), FULL);
        due("count(0)", t.count(0), 4);
        t.degree(1);
        due("the fifth with DEGREE 1", t.point(1, 1, 1), 4);
    }

    private static void boxFrom1To20By1To6() {
        says("THE BOX is ABOVE by BELOW (1 .. 20, 1 .. 6");
        for (int above = 1; above <= 20; above++) {
            for (int below = 1; below <= 6; below++) {
                due("box(" + above + ", " + below + ")", new MarginTable().box(above, below), 1);
            }
        }
        for (int v : new int[] {0, -1, LEAST, MOST, 257, -255}) {
            due("box(" + v + ", 1)", new MarginTable().box(v, 1), BAD);
            due("box(1, " + v + ")", new MarginTable().box(1, v), BAD);
        }
        due("box(21, 1)", new MarginTable().box(21, 1), BAD);
        due("box(21, 6)", new MarginTable().box(21, 6), BAD);
        due("box(1, 7)", new MarginTable().box(1, 7), BAD);
        due("box(20, 7)", new MarginTable().box(20, 7), BAD);
    }

    private static void boxIs1By1AtFirst() {
        says("1 by 1 at first");
        MarginTable t = new MarginTable();
        due("count(2)", t.count(2), 1);
        due("count(3)", t.count(3), 1);
        t.point(0, 0, 1);
        t.begin();
        due("-BELOW at q", t.at(0, 5, 0), -1);
        due("ABOVE at q", t.at(1, 5, 0), 1);
    }

    private static void multipliersFrom0ToTheBox() {
        says("MULTIPLIERS are numbers m(i) from 0 to THE BOX");
        MarginTable t = nearAndFar(1, 6, DONE);
        fraction("m(0) at THE BOX", t.multiplier(0, 0), t.multiplier(0, 1), 1, 6);
        fraction("m(1) between", t.multiplier(1, 0), t.multiplier(1, 1), 1, 102);
        MarginTable wide = nearAndFar(20, 1, DONE);
        fraction("m(0) between", wide.multiplier(0, 0), wide.multiplier(0, 1), 1, 2);
        fraction("m(1) at 0", wide.multiplier(1, 0), wide.multiplier(1, 1), 0, 1);
        MarginTable twins = inState(with(1, 20, 1, new int[] {1, 1, 1}, new int[] {1, 1, -1}), DONE);
        fraction("m(0) of twins", twins.multiplier(0, 0), twins.multiplier(0, 1), 20, 1);
        fraction("m(1) of twins", twins.multiplier(1, 0), twins.multiplier(1, 1), 20, 1);
    }

    private static void fractionsInLowestTerms() {
        says("FRACTIONS are told in lowest terms, what is below above 0");
        MarginTable t = inState(with(1, 20, 6, new int[] {4, 4, -1}), DONE);
        fraction("6 / 33 at q", t.at(0, 5, 0), t.at(0, 5, 1), 2, 11);
        fraction("less than 0", t.at(0, 0, 0), t.at(0, 0, 1), -1, 33);
        fraction("0", t.at(0, 1, 0), t.at(0, 1, 1), 0, 1);
        fraction("1", t.at(0, 2, 0), t.at(0, 2, 1), 1, 1);
        fraction("m(0)", t.multiplier(0, 0), t.multiplier(0, 1), 1, 33);
        fraction("slope(0) of 0", t.slope(0, 0), t.slope(0, 1), 0, 1);
        fraction("decision(0, 0)", t.decision(0, 0, 0), t.decision(0, 0, 1), -1, 33);
        fraction("decision(4, 4)", t.decision(4, 4, 0), t.decision(4, 4, 1), -1, 1);
        MarginTable boxed = nearAndFar(4, 6, DONE);
        fraction("m(0) of a box of 4 by 6", boxed.multiplier(0, 0), boxed.multiplier(0, 1), 1, 2);
        fraction("slope(1)", boxed.slope(1, 0), boxed.slope(1, 1), -3, 2);
    }

    /** Every answer that an object has to give, in at most 460 calls, so that 512 are not passed. */
    private static List<Long> everything(MarginTable t) {
        List<Long> all = new ArrayList<>();
        int n = t.count(0);
        int steps = t.count(4);
        all.add(t.digest());
        all.add((long) t.check());
        for (int i = 0; i < n; i++) {
            all.add((long) t.lies(i));
            all.add(t.slope(i, 0));
            all.add((long) t.change(i, 0, 1));
            all.add((long) t.predict(i, -i));
            all.add(t.decision(-i, 1, 0));
            all.add((long) t.q(i, n - 1));
        }
        for (int i = 0; i <= steps; i++) {
            all.add((long) t.step(i, 0));
            all.add((long) t.step(i, 1));
            all.add((long) t.step(i, 2));
        }
        for (int r = 0; r <= 2 * n; r++) {
            all.add((long) t.told(r));
        }
        for (int cell = 0; all.size() < 460 && cell < 2 * 2 * n * (4 * n + 2); cell++) {
            int column = cell / 2 / (2 * n);
            all.add(t.at(cell / 2 % (2 * n), 4 * n + 1 - column, cell % 2));
        }
        return all;
    }

    private static MarginTable kind(int kind, int state) {
        if (state == NEW) {
            return new MarginTable();
        }
        return switch (kind) {
            case 0 -> nearAndFar(20, 6, state);
            case 1 -> fourWithSquares(state);
            default -> six(state);
        };
    }

    private static final int REFUSALS = 26;

    /** Only what is refused in each state, but for drop(), degree(2), begin(), and go() that may not be. */
    private static int refused(MarginTable t, int call) {
        return switch (call) {
            case 0 -> t.point(5, 0, 1);
            case 1 -> t.point(-5, 0, -1);
            case 2 -> t.point(0, 5, 1);
            case 3 -> t.point(0, -5, 1);
            case 4 -> t.point(0, 0, 0);
            case 5 -> t.degree(0);
            case 6 -> t.degree(3);
            case 7 -> t.box(0, 1);
            case 8 -> t.box(21, 1);
            case 9 -> t.box(1, 0);
            case 10 -> t.box(1, 7);
            case 11 -> t.box(5, 0);
            case 12 -> t.go(0);
            case 13 -> t.go(61);
            case 14 -> t.q(-1, 0) == 1000000 ? BAD : 0;
            case 15 -> t.step(0, 3);
            case 16 -> t.step(0, -1);
            case 17 -> t.lies(-1);
            case 18 -> t.lies(t.count(0));
            case 19 -> t.change(-1, 0, 1);
            case 20 -> t.change(t.count(0), 0, 1);
            case 21 -> t.change(0, -1, 1);
            case 22 -> t.predict(5, 0);
            case 23 -> t.predict(0, -5);
            case 24 -> t.count(-1);
            default -> t.count(7);
        };
    }

    private static void refusedChangingNothing() {
        says("Refused, changing nothing");
        for (int state : STATES) {
            for (int kind = 0; kind < 3; kind++) {
                List<Long> before = everything(kind(kind, state));
                for (int call = 0; call < REFUSALS; call++) {
                    MarginTable t = kind(kind, state);
                    due("refusal " + call, refused(t, call), BAD);
                    unchanged("refusal " + call + " in state " + state, before, everything(t));
                }
            }
            noChangesNothing(state);
            fullChangesNothing(state);
        }
    }

    private static void noChangesNothing(int state) {
        if (state != NEW) {
            MarginTable six = six(state);
            due("degree(2) of six", six.degree(2), NO);
            unchanged("degree(2) of six in state " + state, everything(six(state)), everything(six));
        }
        if (state != DONE) {
            MarginTable t = nearAndFar(20, 6, state);
            due("check()", t.check(), NO);
            due("change(0, 0, 1)", t.change(0, 0, 1), NO);
            due("predict(0, 0)", t.predict(0, 0), NO);
            unchanged("NO in state " + state, everything(nearAndFar(20, 6, state)), everything(t));
        }
        MarginTable empty = new MarginTable();
        due("drop()", empty.drop(), NO);
        due("begin()", empty.begin(), NO);
        due("go(1)", empty.go(1), NO);
        unchanged("NO of a new one", everything(new MarginTable()), everything(empty));
    }

    private static void fullChangesNothing(int state) {
        if (state == NEW) {
            return;
        }
        MarginTable six = six(state);
        due("a seventh", six.point(0, 0, 1), FULL);
        unchanged("a seventh in state " + state, everything(six(state)), everything(six));
        MarginTable four = fourWithSquares(state);
        due("a fifth with squares", four.point(0, 0, 1), FULL);
        unchanged("a fifth in state " + state, everything(fourWithSquares(state)), everything(four));
    }

    private static void unchanged(String by, List<Long> before, List<Long> after) {
        due(by + ": answers", after.size(), before.size());
        for (int i = 0; i < before.size() && i < after.size(); i++) {
            due(by + ": answer " + i, after.get(i), before.get(i));
        }
    }

    private static void firstOfBadNoFull() {
        says("the first of: BAD, NO, FULL");
        due("a bad point of a full one", six(WITH_POINTS).point(5, 0, 1), BAD);
        due("a bad label of a full one", fourWithSquares(WITH_POINTS).point(0, 0, 2), BAD);
        due("degree(3) of six", six(WITH_POINTS).degree(3), BAD);
        due("go(0) without begin()", six(WITH_POINTS).go(0), BAD);
        due("go(61) of none", new MarginTable().go(61), BAD);
        due("change(0, 0, 0) before it is DONE", atOrigin(1, 1, LAID).change(0, 0, 0), BAD);
        due("change(0, 0, 1) of no POINT", new MarginTable().change(0, 0, 1), BAD);
        due("predict(5, 5) of no POINT", new MarginTable().predict(5, 5), BAD);
        due("predict(-4, -4) of no POINT", new MarginTable().predict(-4, -4), NO);
        due("lies(0) of no POINT", new MarginTable().lies(0), BAD);
        due("step(0, 3) of no STEP", new MarginTable().step(0, 3), BAD);
        due("step(-1, -1)", atOrigin(1, 1, DONE).step(-1, -1), BAD);
    }

    private static MarginTable ofEqual(int n, int degree) {
        MarginTable t = with(degree, 20, 6);
        for (int i = 0; i < n; i++) {
            t.point(1, 2, 1);
        }
        t.begin();
        return t;
    }

    private static void rowsAndColumns() {
        says("THE TABLE, of n POINTS, has 2 n rows and columns for w, z, y, and q");
        for (int degree = 1; degree <= 2; degree++) {
            for (int n = 1; n <= (degree == 1 ? 6 : 4); n++) {
                MarginTable t = ofEqual(n, degree);
                due("begin() of " + n, t.begin(), 2 * n);
                due("told of the last row", t.told(2 * n - 1), 2 * n - 1);
                due("told behind it", t.told(2 * n), NONE);
                due("the last cell", t.at(2 * n - 1, 4 * n + 1, 0), 20);
                due("the last cell, below", t.at(2 * n - 1, 4 * n + 1, 1), 1);
                due("a column behind it", t.at(2 * n - 1, 4 * n + 2, 1), 0);
                due("a row behind it", t.at(2 * n, 4 * n + 1, 1), 0);
                due("a column before the first", t.at(0, -1, 1), 0);
                due("a row before the first", t.at(-1, 0, 1), 0);
            }
        }
    }

    private static void rowTellsItsWAtFirst() {
        says("At first row r tells w(r)");
        MarginTable t = ofEqual(6, 1);
        for (int r = 0; r < 12; r++) {
            due("told(" + r + ")", t.told(r), r);
        }
    }

    private static void tableAtFirst() {
        says("and stands: 1 at w(r), else 0 at w; at z(k) minus M(r, k); -1 at y; at q");
        laid(nearAndFar(20, 6, LAID), new int[][] {{2, 5}, {5, 17}}, 20, 6);
        laid(fourWithSquares(LAID), new int[][] {
            {1089, -961, 9, -169}, {-961, 1089, -25, 121}, {9, -25, 36, -25}, {-169, 121, -25, 100}}, 7, 2);
        MarginTable one = with(2, 1, 1, new int[] {0, 0, -1});
        laid(inState(one, LAID), new int[][] {{1}}, 1, 1);
    }

    private static void laid(MarginTable t, int[][] products, int above, int below) {
        int n = products.length;
        for (int r = 0; r < 2 * n; r++) {
            for (int k = 0; k < 2 * n; k++) {
                String at = "row " + r + ", " + k;
                fraction(at + " of w", t.at(r, k, 0), t.at(r, k, 1), k == r ? 1 : 0, 1);
                int m = r < n && k < n ? products[r][k] : k == n + r ? 1 : r == n + k ? -1 : 0;
                fraction(at + " of z", t.at(r, 2 * n + k, 0), t.at(r, 2 * n + k, 1), -m, 1);
            }
            fraction("y of row " + r, t.at(r, 4 * n, 0), t.at(r, 4 * n, 1), -1, 1);
            fraction("q of row " + r, t.at(r, 4 * n + 1, 0), t.at(r, 4 * n + 1, 1), r < n ? -below : above, 1);
        }
    }

    private static void matrixAtItsBorders() {
        says("M(r, k) is Q(r, k) for r, k below n; 1 for k = n + r; -1 for r = n + k; else 0");
        MarginTable t = ofEqual(6, 1);
        due("M(5, 5)", t.at(5, 12 + 5, 0), -6);
        due("M(0, 5)", t.at(0, 12 + 5, 0), -6);
        due("M(0, 6)", t.at(0, 12 + 6, 0), -1);
        due("M(0, 7)", t.at(0, 12 + 7, 0), 0);
        due("M(5, 11)", t.at(5, 12 + 11, 0), -1);
        due("M(5, 10)", t.at(5, 12 + 10, 0), 0);
        due("M(6, 0)", t.at(6, 12, 0), 1);
        due("M(6, 1)", t.at(6, 12 + 1, 0), 0);
        due("M(11, 5)", t.at(11, 12 + 5, 0), 1);
        due("M(11, 4)", t.at(11, 12 + 4, 0), 0);
        due("M(6, 6)", t.at(6, 12 + 6, 0), 0);
        due("M(11, 11)", t.at(11, 12 + 11, 0), 0);
    }

    private static void qAtTheBorderOfRows() {
        says("at q -BELOW for r below n, else ABOVE");
        for (int n = 1; n <= 6; n++) {
            MarginTable t = ofEqual(n, 1);
            due("row n - 1 of " + n, t.at(n - 1, 4 * n + 1, 0), -6);
            due("row n of " + n, t.at(n, 4 * n + 1, 0), 20);
        }
    }

    private static int columnOf(int letter, int n) {
        return letter == 200 ? 4 * n : letter >= 100 ? 2 * n + letter - 100 : letter;
    }

    private static void turnLeavesOneInTheColumn() {
        says("so that 1 stands there and 0 in the rest of the column; the row tells the column's letter then");
        MarginTable t = six(LAID);
        for (int i = 0; t.go(1) == 0; i++) {
            oneInTheColumn(t, i, 6);
        }
        MarginTable squares = fourWithSquares(LAID);
        for (int i = 0; squares.go(1) == 0; i++) {
            oneInTheColumn(squares, i, 4);
        }
        oneInTheColumn(squares, squares.count(4) - 1, 4);
    }

    private static void oneInTheColumn(MarginTable t, int i, int n) {
        int row = t.step(i, 2);
        int column = columnOf(t.step(i, 0), n);
        due("told behind STEP " + i, t.told(row), t.step(i, 0));
        for (int r = 0; r < 2 * n; r++) {
            due("row " + r + " behind STEP " + i, t.at(r, column, 0), r == row ? 1 : 0);
            due("row " + r + " behind STEP " + i + ", below", t.at(r, column, 1), 1);
        }
    }

    /** A table with all its cells over one number, as they were worked out by hand. */
    private static void cells(String when, MarginTable t, int below, int[][] want) {
        for (int r = 0; r < want.length; r++) {
            for (int column = 0; column < want[r].length; column++) {
                BigInteger above = BigInteger.valueOf(want[r][column]);
                long divisor = above.gcd(BigInteger.valueOf(below)).longValue();
                fraction(when + ", row " + r + ", column " + column, t.at(r, column, 0), t.at(r, column, 1),
                    want[r][column] / divisor, below / divisor);
            }
        }
    }

    private static void turnsWorkedByHand() {
        says("TO TURN at a row and a column: the row is divided by what stands there, and taken out of all others");
        MarginTable t = nearAndFar(20, 1, LAID);
        t.go(1);
        cells("behind STEP 0", t, 1, new int[][] {
            {1, -1, 0, 0, 3, 12, -1, 1, 0, 0}, {0, -1, 0, 0, 5, 17, 0, 1, 1, 1},
            {0, -1, 1, 0, 6, 17, 0, 1, 0, 21}, {0, -1, 0, 1, 5, 18, 0, 1, 0, 21}});
        t.go(1);
        cells("behind STEP 1", t, 12, new int[][] {
            {1, -1, 0, 0, 3, 12, -1, 1, 0, 0}, {-17, 5, 0, 0, 9, 0, 17, -5, 12, 12},
            {-17, 5, 12, 0, 21, 0, 17, -5, 0, 252}, {-18, 6, 0, 12, 6, 0, 18, -6, 0, 252}});
        t.go(1);
        cells("behind STEP 2", t, 3, new int[][] {
            {1, -1, 0, 0, 3, 12, -1, 1, 0, 0}, {-5, 2, 0, 0, 0, -9, 5, -2, 3, 3},
            {-6, 3, 3, 0, 0, -21, 6, -3, 0, 63}, {-5, 2, 0, 3, 0, -6, 5, -2, 0, 63}});
        t.go(1);
        cells("behind STEP 3", t, 2, new int[][] {
            {-1, 0, 0, 0, 2, 5, 1, 0, 1, 1}, {-5, 2, 0, 0, 0, -9, 5, -2, 3, 3},
            {1, 0, 2, 0, 0, -5, -1, 0, -3, 39}, {0, 0, 0, 2, 0, 2, 0, 0, -2, 40}});
    }

    /** A training whose cells pass 2^38, so that products of two pass 64 bits. */
    private static MarginTable large(int state) {
        return inState(with(2, 18, 1, new int[] {-4, -4, 1}, new int[] {-4, 4, -1}, new int[] {4, -3, 1},
            new int[] {1, -4, -1}), state);
    }

    /** The largest cells, 41 bits, seen in a search of all fours of places (each in one order) and labels. */
    private static MarginTable largest(int state) {
        return inState(with(2, 20, 1, new int[] {-4, -4, 1}, new int[] {-4, 4, 1}, new int[] {4, -4, 1},
            new int[] {4, 4, 1}), state);
    }

    private static MarginTable ofFour(int kind, int state) {
        return kind == 0 ? large(state) : largest(state);
    }

    /** What stands in a row at w says of which rows, as they were laid, it is the sum. */
    private static void rowsStayEquations() {
        says("Row by row: what is told there, times 1, and all others by what stands, are q");
        due("STEPS of large ones", large(DONE).count(4), 5);
        due("STEPS of the largest", largest(DONE).count(4), 5);
        for (int kind = 0; kind < 2; kind++) {
            for (int made = 0; made <= 5; made++) {
                MarginTable t = ofFour(kind, LAID);
                if (made > 0) {
                    t.go(made);
                }
                for (int r = 0; r < 8; r++) {
                    String which = "kind " + kind + ", row " + r + " behind " + made + " STEPS";
                    isSumOfRows(t, ofFour(kind, LAID), r, which);
                }
            }
        }
    }

    private static void isSumOfRows(MarginTable t, MarginTable first, int r, String which) {
        BigInteger[] above = new BigInteger[18];
        BigInteger[] below = new BigInteger[18];
        BigInteger common = BigInteger.ONE;
        for (int column = 0; column < 18; column++) {
            above[column] = BigInteger.valueOf(t.at(r, column, 0));
            below[column] = BigInteger.valueOf(t.at(r, column, 1));
            due(which + ": below above 0", below[column].signum(), 1);
            common = common.multiply(below[column]);
        }
        for (int column = 8; column < 18; column++) {
            BigInteger sum = BigInteger.ZERO;
            for (int k = 0; k < 8; k++) {
                BigInteger cell = BigInteger.valueOf(first.at(k, column, 0));
                sum = sum.add(above[k].multiply(cell).multiply(common.divide(below[k])));
            }
            BigInteger own = above[column].multiply(common.divide(below[column]));
            due(which + ", column " + column, sum.compareTo(own), 0);
        }
    }

    private static void numbersBeyond32Bits() {
        says("turned step by step by Lemke's rule in whole numbers; multipliers as fractions");
        MarginTable t = large(DONE);
        due("check()", t.check(), 1);
        fraction("at(4, 17)", t.at(4, 17, 0), t.at(4, 17, 1), 334777088071L, 18600772800L);
        fraction("m(0)", t.multiplier(0, 0), t.multiplier(0, 1), 36822329, 18600772800L);
        for (int i = 0; i < 4; i++) {
            fraction("slope(" + i + ")", t.slope(i, 0), t.slope(i, 1), 0, 1);
            due("lies(" + i + ")", t.lies(i), 1);
        }
        fraction("decision(-4, -4)", t.decision(-4, -4, 0), t.decision(-4, -4, 1), 1, 1);
        fraction("decision(1, -4)", t.decision(1, -4, 0), t.decision(1, -4, 1), -1, 1);
    }

    private static void steps(MarginTable t, int[][] want) {
        due("how many STEPS", t.count(4), want.length);
        for (int i = 0; i < want.length; i++) {
            for (int what = 0; what < 3; what++) {
                due("step(" + i + ", " + what + ")", t.step(i, what), want[i][what]);
            }
        }
    }

    private static void stepZero() {
        says("STEP 0: y ENTERS; it is TURNED at the row that is LESS than all others, its column taken as 1");
        for (int n = 1; n <= 6; n++) {
            MarginTable t = ofEqual(n, 1);
            t.go(1);
            steps(t, new int[][] {{200, n - 1, n - 1}});
            due("told(" + (n - 1) + ")", t.told(n - 1), 200);
        }
    }

    private static void tiesAtQ() {
        says("TWO rows are compared by what stands at q, each divided by what stands at the column");
        steps(nearAndFar(20, 1, DONE), new int[][] {{200, 1, 1}, {101, 0, 0}, {100, 101, 0}, {1, 200, 1}});
        MarginTable less = inState(atOrigin(2, 1, LAID), DONE);
        steps(less, new int[][] {{200, 0, 0}, {100, 200, 0}});
        MarginTable more = inState(atOrigin(1, 2, LAID), DONE);
        steps(more, new int[][] {{200, 0, 0}, {100, 1, 1}, {101, 200, 0}});
    }

    /** Where q ties, and w up to w(k) too: {k, DEGREE, ABOVE, BELOW}, the POINTS, {STEP, enters, leaves, row}. */
    private static final int[][][] TIES = {
        {{0, 1, 1, 3}, {1, 0, 1}, {0, -1, -1}, {2, 100, 3, 3}},
        {{0, 1, 1, 1}, {0, 0, -1}, {1, 100, 200, 0}},
        {{1, 2, 4, 1}, {0, -1, -1}, {1, -1, 1}, {1, -1, -1}, {2, 101, 5, 5}},
        {{1, 2, 2, 2}, {-1, 1, 1}, {0, 0, 1}, {1, 101, 200, 1}},
        {{2, 2, 4, 2}, {0, -1, -1}, {0, 0, 1}, {-2, -2, 1}, {-2, -2, -1}, {2, 102, 7, 7}},
        {{2, 1, 2, 2}, {1, -1, 1}, {1, 1, 1}, {0, 0, 1}, {1, 102, 200, 2}},
        {{3, 1, 3, 3}, {-1, 0, -1}, {0, 0, 1}, {-1, -1, -1}, {1, 0, 1}, {6, 105, 200, 3}},
        {{3, 1, 3, 3}, {-1, -1, -1}, {0, 1, -1}, {1, 1, -1}, {0, 0, -1}, {1, 103, 200, 3}},
        {{4, 1, 3, 3}, {1, 0, -1}, {-2, -2, -1}, {-1, 1, -1}, {-1, 2, 1}, {-1, -1, -1}, {6, 107, 200, 4}},
        {{4, 1, 1, 1}, {1, 1, 1}, {1, -1, 1}, {1, 1, 1}, {1, 1, 1}, {0, 0, 1}, {1, 104, 200, 4}},
        {{5, 1, 2, 2}, {1, -1, 1}, {-1, -1, -1}, {-1, -1, -1}, {-1, 1, -1}, {0, 0, 1}, {1, 0, 1},
            {6, 110, 200, 5}},
        {{5, 1, 1, 1}, {0, 0, -1}, {1, 1, -1}, {0, -1, -1}, {-1, 0, -1}, {0, 1, -1}, {0, 0, -1},
            {1, 105, 200, 5}},
    };

    private static void tiesByRows() {
        says("then at w(0), w(1), ..: the one with less at the first that differs is LESS");
        for (int[][] tie : TIES) {
            int[] head = tie[0];
            int[] last = tie[tie.length - 1];
            MarginTable t = with(head[1], head[2], head[3]);
            for (int i = 1; i < tie.length - 1; i++) {
                t.point(tie[i][0], tie[i][1], tie[i][2]);
            }
            inState(t, LAID).go(last[0]);
            tied(t, tie.length - 2, head[0], last);
            t.go(1);
            String at = "a tie up to w(" + head[0] + "): ";
            due(at + "what ENTERS", t.step(last[0], 0), last[1]);
            due(at + "what LEAVES", t.step(last[0], 1), last[2]);
            due(at + "the row", t.step(last[0], 2), last[3]);
        }
    }

    /** Some other row ties with the one that is due, in all columns before w(k), and has more there. */
    private static void tied(MarginTable t, int n, int k, int[] last) {
        int found = 0;
        for (int r = 0; r < 2 * n; r++) {
            if (r != last[3] && firstDifference(t, n, r, last) == k) {
                found = 1;
            }
        }
        due("a row that ties up to w(" + k + ")", found, 1);
    }

    private static int firstDifference(MarginTable t, int n, int r, int[] last) {
        int column = columnOf(last[1], n);
        if (t.at(r, column, 0) <= 0 || difference(t, r, last[3], 4 * n + 1, column) != 0) {
            return NONE;
        }
        for (int k = 0; k < 2 * n; k++) {
            if (difference(t, r, last[3], k, column) != 0) {
                return k;
            }
        }
        return NONE;
    }

    private static int difference(MarginTable t, int r, int s, int at, int column) {
        BigInteger one = product(t.at(r, at, 0), t.at(r, column, 1), t.at(s, at, 1), t.at(s, column, 0));
        BigInteger other = product(t.at(s, at, 0), t.at(s, column, 1), t.at(r, at, 1), t.at(r, column, 0));
        return one.compareTo(other);
    }

    private static BigInteger product(long... factors) {
        BigInteger product = BigInteger.ONE;
        for (long factor : factors) {
            product = product.multiply(BigInteger.valueOf(factor));
        }
        return product;
    }

    private static void complementEnters() {
        says("Each further STEP: the COMPLEMENT of what LEFT last ENTERS");
        int wEntered = 0;
        int zEntered = 0;
        for (MarginTable t : new MarginTable[] {nearAndFar(20, 1, DONE), six(DONE), fourWithSquares(DONE)}) {
            for (int i = 1; i < t.count(4); i++) {
                int left = t.step(i - 1, 1);
                due("what ENTERS in STEP " + i, t.step(i, 0), left >= 100 ? left - 100 : left + 100);
                wEntered += left >= 100 ? 1 : 0;
                zEntered += left >= 100 ? 0 : 1;
            }
        }
        due("some w ENTERED", wEntered > 0 ? 1 : 0, 1);
        due("some z ENTERED", zEntered > 0 ? 1 : 0, 1);
    }

    /** Before STEP 3 there is -1/3 at w(1) in row 0, and 0 at q: a ratio of 0, but not above 0. */
    private static void onlyRowsAboveZero() {
        says("among those in which there is something above 0 in its column");
        MarginTable t = nearAndFar(20, 1, LAID);
        t.go(3);
        fraction("at(0, 1)", t.at(0, 1, 0), t.at(0, 1, 1), -1, 3);
        due("at(0, 9, 0)", t.at(0, 9, 0), 0);
        t.go(1);
        due("the row of STEP 3", t.step(3, 2), 1);
        zeroInTheColumn();
    }

    /** Behind STEP 0 there is 0 at z(1) in row 0, and 0 at q. */
    private static void zeroInTheColumn() {
        MarginTable t = inState(with(1, 1, 1, new int[] {0, 1, -1}, new int[] {0, 0, -1}), ON_THE_WAY);
        fraction("at(0, 5)", t.at(0, 5, 0), t.at(0, 5, 1), 0, 1);
        due("at(0, 9, 0)", t.at(0, 9, 0), 0);
        due("go(1)", t.go(1), 1);
        steps(t, new int[][] {{200, 1, 1}, {101, 200, 1}});
    }

    private static void doneWhenYLeft() {
        says("When y LEFT it is DONE: what a row tells is what stands at q there, all else is 0");
        MarginTable t = nearAndFar(20, 1, LAID);
        due("go(3)", t.go(3), 0);
        due("count(5) before the last STEP", t.count(5), 0);
        due("go(1)", t.go(1), 1);
        due("what LEFT last", t.step(3, 1), 200);
        due("told(0)", t.told(0), 100);
        fraction("z(0)", t.at(0, 9, 0), t.at(0, 9, 1), 1, 2);
        fraction("m(0)", t.multiplier(0, 0), t.multiplier(0, 1), 1, 2);
        fraction("m(1), which no row tells", t.multiplier(1, 0), t.multiplier(1, 1), 0, 1);
    }

    private static void multiplierIsZByBelow() {
        says("m(i) is z(i) by BELOW");
        for (int below = 1; below <= 6; below++) {
            MarginTable t = atOrigin(20, below, DONE);
            due("z(0), BELOW being " + below, t.at(0, 5, 0), below);
            fraction("m(0)", t.multiplier(0, 0), t.multiplier(0, 1), 1, 1);
            MarginTable small = atOrigin(1, below, DONE);
            fraction("m(0) of THE BOX", small.multiplier(0, 0), small.multiplier(0, 1), 1, below);
        }
    }

    private static void newObject() {
        says("No POINTS, DEGREE 1, THE BOX 1 by 1");
        MarginTable t = new MarginTable();
        int[] want = {0, 1, 1, 1, 0, NONE, NONE};
        for (int what = 0; what < want.length; what++) {
            due("count(" + what + ")", t.count(what), want[what]);
        }
        due("q(0, 0)", t.q(0, 0), 1000000);
        due("told(0)", t.told(0), NONE);
        due("at(0, 0, 1)", t.at(0, 0, 1), 0);
        due("step(0, 0)", t.step(0, 0), NONE);
        due("multiplier(0, 1)", t.multiplier(0, 1), 0);
        due("slope(0, 1)", t.slope(0, 1), 0);
        due("decision(0, 0, 1)", t.decision(0, 0, 1), 0);
        due("check()", t.check(), NO);
        MarginTable other = six(DONE);
        due("count(0) of the one", t.count(0), 0);
        due("count(0) of the other", other.count(0), 6);
    }

    private static void pointAnswersItsNumber() {
        says("A POINT: its number");
        MarginTable t = new MarginTable();
        due("the first", t.point(-4, 4, 1), 0);
        due("a bad one", t.point(-4, 5, 1), BAD);
        due("the second, at the same place", t.point(-4, 4, -1), 1);
        t.drop();
        t.drop();
        due("the first again", t.point(1, 1, 1), 0);
        due("with what is new", t.q(0, 0), 3);
    }

    private static void whatWasBegunGoes() {
        says("What was begun goes, as with drop(), degree(), box()");
        for (int state = LAID; state <= DONE; state++) {
            for (int kind = 0; kind < 6; kind++) {
                MarginTable t = nearAndFar(20, 6, state);
                changedBy(t, kind);
                nothingIsBegun(" behind a change of kind " + kind + " in state " + state, t);
                due("begin() behind it", t.begin(), 2 * t.count(0));
                due("go(60) behind it", t.go(60), 1);
            }
        }
    }

    /** Kinds 4 and 5 set what was set already. */
    private static void changedBy(MarginTable t, int kind) {
        switch (kind) {
            case 0 -> t.point(0, 0, 1);
            case 1 -> t.drop();
            case 2 -> t.degree(2);
            case 3 -> t.box(3, 2);
            case 4 -> t.degree(1);
            default -> t.box(20, 6);
        }
    }

    private static void nothingIsBegun(String behind, MarginTable t) {
        due("count(4)" + behind, t.count(4), 0);
        due("count(5)" + behind, t.count(5), NONE);
        due("count(6)" + behind, t.count(6), NONE);
        due("go(1)" + behind, t.go(1), NO);
        due("step(0, 0)" + behind, t.step(0, 0), NONE);
        due("told(0)" + behind, t.told(0), NONE);
        due("at(0, 0, 0)" + behind, t.at(0, 0, 0), 0);
        due("at(0, 0, 1)" + behind, t.at(0, 0, 1), 0);
        due("multiplier(0, 1)" + behind, t.multiplier(0, 1), 0);
        due("lies(0)" + behind, t.lies(0), NONE);
        due("slope(0, 1)" + behind, t.slope(0, 1), 0);
        due("check()" + behind, t.check(), NO);
        due("change(0, 0, 1)" + behind, t.change(0, 0, 1), NO);
        due("decision(0, 0, 1)" + behind, t.decision(0, 0, 1), 0);
        due("predict(0, 0)" + behind, t.predict(0, 0), NO);
    }

    private static void dropTakesTheLast() {
        says("The last POINT goes: how many are left");
        MarginTable t = six(WITH_POINTS);
        for (int left = 5; left >= 0; left--) {
            due("drop()", t.drop(), left);
            due("count(0)", t.count(0), left);
            due("q of the one that went", t.q(left, left), 1000000);
            due("q of the last that is left", t.q(left - 1, left - 1) == 1000000 ? 1 : 0, left == 0 ? 1 : 0);
        }
        MarginTable two = nearAndFar(20, 6, WITH_POINTS);
        two.drop();
        due("q(0, 0) of the first", two.q(0, 0), 2);
    }

    private static void dropOfNone() {
        says("drop() NO: there is none");
        MarginTable t = new MarginTable();
        due("drop()", t.drop(), NO);
        due("count(0)", t.count(0), 0);
        t.point(0, 0, 1);
        due("drop() of one", t.drop(), 0);
        due("drop() of none again", t.drop(), NO);
        due("a point behind it", t.point(0, 0, 1), 0);
    }

    private static void degreeAnswersWhichItWas() {
        says("The DEGREE becomes d: which it was");
        MarginTable t = new MarginTable();
        due("degree(1)", t.degree(1), 1);
        due("degree(2)", t.degree(2), 1);
        due("degree(2)", t.degree(2), 2);
        due("degree(1)", t.degree(1), 2);
        due("count(1)", t.count(1), 1);
    }

    private static void degreeOfTooMany() {
        says("degree() NO: there are more POINTS than it may have");
        MarginTable t = six(WITH_POINTS);
        due("degree(2) of six", t.degree(2), NO);
        due("degree(1) of six", t.degree(1), 1);
        t.drop();
        due("degree(2) of five", t.degree(2), NO);
        due("count(1)", t.count(1), 1);
        t.drop();
        due("degree(2) of four", t.degree(2), 1);
        due("degree(2) of four again", t.degree(2), 2);
        due("degree(1) of four", t.degree(1), 2);
    }

    private static void boxAnswers1() {
        says("THE BOX becomes above by below: 1");
        MarginTable t = new MarginTable();
        int[][] boxes = {{20, 6}, {1, 6}, {20, 1}, {1, 1}, {4, 2}};
        for (int[] box : boxes) {
            due("box()", t.box(box[0], box[1]), 1);
            due("count(2)", t.count(2), box[0]);
            due("count(3)", t.count(3), box[1]);
        }
        due("box(0, 3)", t.box(0, 3), BAD);
        due("box(3, 0)", t.box(3, 0), BAD);
        due("count(2) behind them", t.count(2), 4);
        due("count(3) behind them", t.count(3), 2);
    }

    private static void qOfNoPoint() {
        says("Q of two POINTS. BAD: 1000000");
        due("q(0, 0) of none", new MarginTable().q(0, 0), 1000000);
        for (MarginTable t : new MarginTable[] {nearAndFar(1, 1, WITH_POINTS), six(WITH_POINTS), six(DONE)}) {
            int n = t.count(0);
            for (int i : new int[] {-1, n, n + 1, 12, LEAST, MOST}) {
                due("q(" + i + ", 0) of " + n, t.q(i, 0), 1000000);
                due("q(0, " + i + ") of " + n, t.q(0, i), 1000000);
                due("q(" + i + ", " + i + ") of " + n, t.q(i, i), 1000000);
            }
        }
    }

    private static void qAtTheEnds() {
        says("Q of POINTS i, k: their LABELS' product times THE KERNEL");
        MarginTable t = with(1, 1, 1, new int[] {4, 4, 1}, new int[] {4, 4, -1}, new int[] {-4, -4, -1},
            new int[] {-4, -4, 1});
        due("the most", t.q(0, 0), 33);
        due("the least", t.q(0, 1), -33);
        due("through 0", t.q(0, 2), 31);
        due("through 0 alike", t.q(0, 3), -31);
        due("the last", t.q(3, 3), 33);
        t.degree(2);
        due("the most of squares", t.q(0, 0), 1089);
        due("the least of squares", t.q(1, 0), -1089);
        due("through 0, of squares", t.q(0, 2), -961);
        due("through 0 alike, of squares", t.q(3, 0), 961);
    }

    private static void beginAnew() {
        says("THE TABLE is laid anew: how many rows");
        for (int state = WITH_POINTS; state <= DONE; state++) {
            MarginTable t = fourWithSquares(state);
            due("begin()", t.begin(), 8);
            List<Long> again = everything(t);
            unchanged("begin() in state " + state, everything(fourWithSquares(LAID)), again);
        }
        MarginTable t = six(DONE);
        int steps = t.count(4);
        t.begin();
        due("go(60) again", t.go(60), 1);
        due("the same STEPS again", t.count(4), steps);
        due("the same digest() again", t.digest(), six(DONE).digest());
        t.drop();
        due("begin() of five", t.begin(), 10);
        t.point(0, 0, -1);
        due("begin() of six", t.begin(), 12);
    }

    private static void beginOfNoPoint() {
        says("begin() NO: there is no POINT");
        MarginTable t = new MarginTable();
        due("begin()", t.begin(), NO);
        due("count(5) behind it", t.count(5), NONE);
        t.point(0, 0, 1);
        due("begin() of one", t.begin(), 2);
        t.drop();
        due("begin() of none again", t.begin(), NO);
        due("told(0) behind it", t.told(0), NONE);
    }

    private static void goFrom1To60() {
        says("Up to n (1 .. 60) STEPS");
        for (int n = 1; n <= 60; n++) {
            due("go(" + n + ")", atOrigin(1, 1, LAID).go(n), n == 1 ? 0 : 1);
        }
        for (int n : new int[] {0, 61, -1, LEAST, MOST, 257, -255}) {
            MarginTable t = atOrigin(1, 1, LAID);
            due("go(" + n + ")", t.go(n), BAD);
            due("count(4) behind it", t.count(4), 0);
        }
    }

    private static void goUpToN() {
        says("1 it is DONE, 0 not yet");
        int need = six(DONE).count(4);
        due("six need some STEPS", need > 5 ? 1 : 0, 1);
        for (int n = 1; n <= 60; n++) {
            MarginTable t = six(LAID);
            due("go(" + n + ")", t.go(n), n < need ? 0 : 1);
            due("count(4)", t.count(4), Math.min(n, need));
            due("count(5)", t.count(5), n < need ? 0 : 1);
            if (n > 1) {
                due("what ENTERED last", t.step(Math.min(n, need) - 1, 0), six(DONE).step(Math.min(n, need) - 1, 0));
            }
        }
    }

    private static void goWhenDone() {
        says("Up to n STEPS: 1 it is DONE");
        MarginTable t = nearAndFar(20, 6, DONE);
        List<Long> before = everything(nearAndFar(20, 6, DONE));
        due("go(1)", t.go(1), 1);
        due("go(60)", t.go(60), 1);
        due("go(61)", t.go(61), BAD);
        unchanged("go() when it is DONE", before, everything(t));
    }

    private static void goWithoutBegin() {
        says("go() NO: begin() was not called since something changed");
        due("go(1) of a new one", new MarginTable().go(1), NO);
        due("go(60) of POINTS", six(WITH_POINTS).go(60), NO);
        for (int kind = 0; kind < 6; kind++) {
            MarginTable t = nearAndFar(20, 6, LAID);
            changedBy(t, kind);
            due("go(1) behind a change of kind " + kind, t.go(1), NO);
            due("go(60) behind a change of kind " + kind, t.go(60), NO);
            t.begin();
            due("go(1) behind begin()", t.go(1), 0);
        }
        MarginTable refusing = nearAndFar(20, 6, LAID);
        refusing.point(0, 0, 0);
        refusing.degree(3);
        refusing.box(0, 0);
        due("go(1) behind refusals", refusing.go(1), 0);
    }

    private static void stepsTold() {
        says("STEP i: what ENTERED (what = 0), LEFT (1), at which row (2)");
        steps(nearAndFar(20, 1, DONE), new int[][] {{200, 1, 1}, {101, 0, 0}, {100, 101, 0}, {1, 200, 1}});
        steps(nearAndFar(20, 1, ON_THE_WAY), new int[][] {{200, 1, 1}});
        steps(nearAndFar(20, 1, LAID), new int[][] {});
    }

    private static void stepOfNone() {
        says("step() NONE: there was none such (since begin())");
        for (int what = 0; what <= 2; what++) {
            due("step(0) of a new one", new MarginTable().step(0, what), NONE);
            due("step(0) when laid", nearAndFar(20, 1, LAID).step(0, what), NONE);
            due("step(1) on the way", nearAndFar(20, 1, ON_THE_WAY).step(1, what), NONE);
            MarginTable t = nearAndFar(20, 1, DONE);
            for (int i : new int[] {-1, 4, 5, 199, 200, 201, LEAST, MOST}) {
                due("step(" + i + ", " + what + ")", t.step(i, what), NONE);
            }
            t.begin();
            due("step(0) since begin()", t.step(0, what), NONE);
            t.go(1);
            due("step(1) since begin()", t.step(1, what), NONE);
        }
    }

    private static void stepBadWhat() {
        says("step() BAD: what");
        for (int what : new int[] {-1, 3, LEAST, MOST, 256}) {
            for (int i : new int[] {0, 3, 4, -1, LEAST, MOST}) {
                due("step(" + i + ", " + what + ")", nearAndFar(20, 1, DONE).step(i, what), BAD);
            }
            due("step(0, " + what + ") of a new one", new MarginTable().step(0, what), BAD);
        }
    }

    private static void lettersTold() {
        says("w(k) is told as k, z(k) as 100 + k, y as 200");
        MarginTable t = nearAndFar(20, 1, LAID);
        int[][] want = {{0, 1, 2, 3}, {0, 200, 2, 3}, {101, 200, 2, 3}, {100, 200, 2, 3}, {100, 1, 2, 3}};
        for (int step = 0; step < want.length; step++) {
            for (int r = 0; r < 4; r++) {
                due("told(" + r + ") behind " + step + " STEPS", t.told(r), want[step][r]);
            }
            t.go(1);
        }
        MarginTable six = six(LAID);
        due("told(11)", six.told(11), 11);
        six.go(1);
        due("told(5)", six.told(5), 200);
        six.go(1);
        due("what ENTERS then", six.step(1, 0), 105);
    }

    private static void toldOfNone() {
        says("told() NONE: there is none such, or nothing was begun");
        due("told(0) of a new one", new MarginTable().told(0), NONE);
        due("told(0) of POINTS", six(WITH_POINTS).told(0), NONE);
        for (int state = LAID; state <= DONE; state++) {
            for (int r : new int[] {-1, 12, 13, LEAST, MOST}) {
                due("told(" + r + ") of six", six(state).told(r), NONE);
            }
            for (int r : new int[] {-1, 4, 5, 11, 12}) {
                due("told(" + r + ") of two", nearAndFar(20, 1, state).told(r), NONE);
            }
            due("told(3) of two", nearAndFar(20, 1, state).told(3), 3);
        }
        MarginTable fewer = six(LAID);
        fewer.drop();
        fewer.begin();
        due("told(9) of five", fewer.told(9), 9);
        due("told(10) of five that were six", fewer.told(10), NONE);
    }

    private static void atOfNone() {
        says("at() 0: there is none such, BAD, or nothing was begun");
        due("at(0, 0, 1) of a new one", new MarginTable().at(0, 0, 1), 0);
        due("at(0, 0, 1) of POINTS", six(WITH_POINTS).at(0, 0, 1), 0);
        for (int state = LAID; state <= DONE; state++) {
            MarginTable t = nearAndFar(20, 6, state);
            due("at(3, 9, 1)", t.at(3, 9, 1) > 0 ? 1 : 0, 1);
            for (int r : new int[] {-1, 4, 11, 12, LEAST, MOST}) {
                due("at(" + r + ", 0, 1)", t.at(r, 0, 1), 0);
            }
            for (int column : new int[] {-1, 10, 25, 26, LEAST, MOST}) {
                due("at(0, " + column + ", 1)", t.at(0, column, 1), 0);
            }
            for (int what : new int[] {-1, 2, 3, LEAST, MOST}) {
                due("at(0, 9, " + what + ")", t.at(0, 9, what), 0);
                due("at(3, 3, " + what + ")", t.at(3, 3, what), 0);
            }
        }
        MarginTable six = six(LAID);
        due("at(11, 25, 0)", six.at(11, 25, 0), 20);
        due("at(11, 26, 1)", six.at(11, 26, 1), 0);
        due("at(12, 25, 1)", six.at(12, 25, 1), 0);
    }

    private static void multiplierOnlyWhenDone() {
        says("m(i), when it is DONE: above, below. 0 else");
        for (int state = NEW; state < DONE; state++) {
            MarginTable t = kind(0, state);
            due("multiplier(0, 0) in state " + state, t.multiplier(0, 0), 0);
            due("multiplier(0, 1) in state " + state, t.multiplier(0, 1), 0);
        }
        MarginTable t = nearAndFar(20, 6, DONE);
        fraction("m(0)", t.multiplier(0, 0), t.multiplier(0, 1), 1, 2);
        fraction("m(1)", t.multiplier(1, 0), t.multiplier(1, 1), 0, 1);
        for (int bad : new int[] {-1, 2, 3, 4, LEAST, MOST}) {
            due("multiplier(" + bad + ", 1)", t.multiplier(bad, 1), 0);
            due("multiplier(0, " + bad + ")", t.multiplier(0, bad), 0);
        }
        due("multiplier(5, 1) of six", six(DONE).multiplier(5, 1) > 0 ? 1 : 0, 1);
        due("multiplier(6, 1) of six", six(DONE).multiplier(6, 1), 0);
    }

    private static void liesAtItsThreePlaces() {
        says("How a POINT lies: 0 m(i) is 0, 1 between, 2 m(i) is THE BOX");
        due("0", nearAndFar(20, 6, DONE).lies(1), 0);
        due("between", nearAndFar(20, 6, DONE).lies(0), 1);
        due("just below THE BOX", nearAndFar(11, 6, DONE).lies(0), 1);
        due("a box of 3 by 5", nearAndFar(3, 5, DONE).lies(0), 1);
        due("THE BOX, reached just so", nearAndFar(3, 6, DONE).lies(0), 2);
        due("THE BOX, too small", nearAndFar(2, 5, DONE).lies(0), 2);
        due("just above 0", nearAndFar(1, 6, DONE).lies(1), 1);
        due("0 with the box reached just so", nearAndFar(1, 5, DONE).lies(1), 0);
    }

    private static void liesOfNone() {
        says("lies() NONE: it is not DONE. BAD");
        due("lies(0) of no POINT", new MarginTable().lies(0), BAD);
        for (int state = WITH_POINTS; state <= DONE; state++) {
            MarginTable t = nearAndFar(20, 6, state);
            due("lies(0) in state " + state, t.lies(0), state == DONE ? 1 : NONE);
            due("lies(1) in state " + state, t.lies(1), state == DONE ? 0 : NONE);
            for (int bad : new int[] {-1, 2, 5, 6, LEAST, MOST}) {
                due("lies(" + bad + ") in state " + state, t.lies(bad), BAD);
            }
            due("lies(6) of six", six(state).lies(6), BAD);
        }
    }

    private static void slopeOnlyWhenDone() {
        says("slope() 0: not DONE, BAD");
        for (int state = NEW; state < DONE; state++) {
            MarginTable t = kind(0, state);
            due("slope(0, 0) in state " + state, t.slope(0, 0), 0);
            due("slope(0, 1) in state " + state, t.slope(0, 1), 0);
        }
        MarginTable t = nearAndFar(1, 4, DONE);
        fraction("slope(0) above 0", t.slope(0, 0), t.slope(0, 1), 1, 2);
        fraction("slope(1) below 0", t.slope(1, 0), t.slope(1, 1), -1, 4);
        MarginTable even = nearAndFar(1, 2, DONE);
        fraction("slope(0) of 0", even.slope(0, 0), even.slope(0, 1), 0, 1);
        for (int bad : new int[] {-1, 2, 3, LEAST, MOST}) {
            due("slope(" + bad + ", 1)", t.slope(bad, 1), 0);
            due("slope(0, " + bad + ")", t.slope(0, bad), 0);
        }
        due("slope(6, 1) of six", six(DONE).slope(6, 1), 0);
    }

    private static void conditionsAtTheirEnds() {
        says("each slope is not above 0 where m(i) is 0, not below 0 where it is THE BOX, 0 between: 1");
        MarginTable zero = inState(with(1, 1, 1, new int[] {0, 1, -1}, new int[] {0, 0, -1}), DONE);
        conditions("0 at 0, 0 at THE BOX", zero, new int[] {0, 2}, new int[] {0, 0});
        conditions("0 between, below 0 at 0", nearAndFar(20, 6, DONE), new int[] {1, 0}, new int[] {0, -1});
        conditions("above 0 at THE BOX", nearAndFar(1, 4, DONE), new int[] {2, 0}, new int[] {1, -1});
        conditions("0 at 0", nearAndFar(1, 5, DONE), new int[] {2, 0}, new int[] {1, 0});
        conditions("0 between", nearAndFar(1, 6, DONE), new int[] {2, 1}, new int[] {1, 0});
    }

    private static void conditions(String how, MarginTable t, int[] places, int[] slopes) {
        for (int i = 0; i < places.length; i++) {
            due("lies(" + i + ") with slopes " + how, t.lies(i), places[i]);
            due("the slope's sign with " + how, Long.signum(t.slope(i, 0)), slopes[i]);
        }
        due("check() with " + how, t.check(), 1);
    }

    private static void checkOnlyWhenDone() {
        says("check() NO: it is not DONE");
        for (int state : STATES) {
            due("check() in state " + state, kind(0, state).check(), state == DONE ? 1 : NO);
        }
        MarginTable last = nearAndFar(20, 1, LAID);
        last.go(3);
        due("check() before the last STEP", last.check(), NO);
        last.go(1);
        due("check() behind it", last.check(), 1);
        last.begin();
        due("check() behind begin()", last.check(), NO);
    }

    private static void changeToTheSame() {
        says("What WORTH does if m(i) becomes above by below: -1 less, 0 the same");
        MarginTable t = nearAndFar(20, 6, DONE);
        due("change(0, 1, 2), as it is", t.change(0, 1, 2), 0);
        due("change(0, 2, 4), as it is", t.change(0, 2, 4), 0);
        due("change(0, 3, 6), as it is", t.change(0, 3, 6), 0);
        due("change(0, 2, 5), a bit less", t.change(0, 2, 5), -1);
        due("change(0, 3, 5), a bit more", t.change(0, 3, 5), -1);
        due("change(1, 0, 1), as it is", t.change(1, 0, 1), 0);
        due("change(1, 0, 6), as it is", t.change(1, 0, 6), 0);
        due("change(1, 1, 6), a bit more", t.change(1, 1, 6), -1);
        MarginTable box = nearAndFar(1, 4, DONE);
        due("change(0, 1, 4), as it is", box.change(0, 1, 4), 0);
        due("change(0, 1, 5), a bit less", box.change(0, 1, 5), -1);
        fraction("m(0), which stays", box.multiplier(0, 0), box.multiplier(0, 1), 1, 4);
    }

    private static void changeOutsideTheBox() {
        says("change() BAD: -2, also what is not 0 to THE BOX");
        MarginTable t = nearAndFar(20, 6, DONE);
        int[] mostInBox = {0, 3, 6, 10, 13, 16, 20};
        for (int below = 1; below <= 6; below++) {
            due("change(0, 0, " + below + ")", t.change(0, 0, below), -1);
            due("the most by " + below, t.change(0, mostInBox[below], below), -1);
            due("one more by " + below, t.change(0, mostInBox[below] + 1, below), BAD);
            due("less than 0 by " + below, t.change(0, -1, below), BAD);
            due("the least number by " + below, t.change(0, LEAST, below), BAD);
        }
        MarginTable one = nearAndFar(1, 1, DONE);
        due("change(0, 6, 6), THE BOX", one.change(0, 6, 6), -1);
        due("change(0, 7, 6)", one.change(0, 7, 6), BAD);
        MarginTable wide = nearAndFar(20, 1, DONE);
        due("change(0, 120, 6), THE BOX", wide.change(0, 120, 6), -1);
        due("change(0, 121, 6)", wide.change(0, 121, 6), BAD);
        due("change(0, 20, 1), THE BOX", wide.change(0, 20, 1), -1);
        due("change(0, 21, 1)", wide.change(0, 21, 1), BAD);
        for (int bad : new int[] {-1, 2, 6, LEAST, MOST}) {
            due("change(" + bad + ", 0, 1)", t.change(bad, 0, 1), BAD);
        }
    }

    private static void changeBelowFrom1To6() {
        says("above by below (1 .. 6)");
        for (int state = WITH_POINTS; state <= DONE; state++) {
            MarginTable t = nearAndFar(20, 6, state);
            for (int below : new int[] {0, 7, -1, -6, 12, LEAST, MOST}) {
                due("change(0, 0, " + below + ")", t.change(0, 0, below), BAD);
                due("change(0, 1, " + below + ")", t.change(0, 1, below), BAD);
                due("change(0, -1, " + below + ")", t.change(0, -1, below), BAD);
            }
        }
    }

    /** Products of these with BELOW are small again in 32 bits. */
    private static void changeWrapsNowhere() {
        says("BAD: also what is not 0 to THE BOX");
        for (int boxBelow = 1; boxBelow <= 6; boxBelow++) {
            MarginTable t = nearAndFar(20, boxBelow, DONE);
            for (int above : new int[] {MOST, 715827883, 1073741824, 1431655766, 858993460, 1717986919}) {
                for (int below = 1; below <= 6; below++) {
                    due("change(0, " + above + ", " + below + ")", t.change(0, above, below), BAD);
                }
            }
        }
    }

    private static void changeOnlyWhenDone() {
        says("change() NO: it is not DONE");
        for (int state = WITH_POINTS; state <= DONE; state++) {
            MarginTable t = nearAndFar(20, 6, state);
            due("change(0, 1, 2) in state " + state, t.change(0, 1, 2), state == DONE ? 0 : NO);
            due("change(0, 0, 1) in state " + state, t.change(0, 0, 1), state == DONE ? -1 : NO);
            due("change(1, 20, 6) in state " + state, t.change(1, 20, 6), state == DONE ? -1 : NO);
            due("change(1, 21, 6) in state " + state, t.change(1, 21, 6), BAD);
        }
    }

    private static void decisionFromMinus4To4() {
        says("The DECISION for x, y (-4 .. 4)");
        MarginTable t = nearAndFar(20, 6, DONE);
        int[][] ends = {{4, 4, 5}, {4, -4, 5}, {-4, 4, -3}, {-4, -4, -3}};
        for (int[] end : ends) {
            fraction("decision()", t.decision(end[0], end[1], 0), t.decision(end[0], end[1], 1), end[2], 2);
        }
        fraction("decision(-1, 0)", t.decision(-1, 0, 0), t.decision(-1, 0, 1), 0, 1);
        for (int bad : new int[] {-5, 5, LEAST, MOST}) {
            due("decision(" + bad + ", 0, 1)", t.decision(bad, 0, 1), 0);
            due("decision(0, " + bad + ", 1)", t.decision(0, bad, 1), 0);
        }
        for (int bad : new int[] {-1, 2, LEAST, MOST}) {
            due("decision(0, 0, " + bad + ")", t.decision(0, 0, bad), 0);
        }
    }

    private static void decisionOnlyWhenDone() {
        says("decision() 0: not DONE, BAD");
        for (int state : STATES) {
            MarginTable t = kind(0, state);
            due("decision(0, 0, 0) in state " + state, t.decision(0, 0, 0), state == DONE ? 1 : 0);
            due("decision(0, 0, 1) in state " + state, t.decision(0, 0, 1), state == DONE ? 2 : 0);
        }
    }

    private static void predictsThreeSigns() {
        says("Its sign: -1, 0, 1. BAD: -2");
        MarginTable t = nearAndFar(20, 6, DONE);
        due("predict(0, 4)", t.predict(0, 4), 1);
        due("predict(-1, -4)", t.predict(-1, -4), 0);
        due("predict(-2, 4)", t.predict(-2, 4), -1);
        due("predict(4, 4)", t.predict(4, 4), 1);
        due("predict(-4, -4)", t.predict(-4, -4), -1);
        for (int bad : new int[] {-5, 5, LEAST, MOST}) {
            due("predict(" + bad + ", 0)", t.predict(bad, 0), BAD);
            due("predict(0, " + bad + ")", t.predict(0, bad), BAD);
        }
    }

    private static void predictOnlyWhenDone() {
        says("predict() NO: it is not DONE");
        for (int state : STATES) {
            MarginTable t = kind(0, state);
            due("predict(0, 0) in state " + state, t.predict(0, 0), state == DONE ? 1 : NO);
            due("predict(-4, 4) in state " + state, t.predict(-4, 4), state == DONE ? -1 : NO);
            due("predict(5, 0) in state " + state, t.predict(5, 0), BAD);
        }
    }

    private static void countFrom0To6() {
        says("How many: 0 POINTS .. 6 POINTS with m(i) above 0. BAD");
        for (int state : STATES) {
            for (int bad : new int[] {-1, 7, 8, LEAST, MOST, 256}) {
                due("count(" + bad + ")", kind(2, state).count(bad), BAD);
            }
        }
        int[] want = {4, 2, 7, 2, 0, 0, NONE};
        for (int what = 0; what < want.length; what++) {
            due("count(" + what + ")", fourWithSquares(LAID).count(what), want[what]);
        }
    }

    private static void countOfWhatWasBegun() {
        says("4 STEPS (since begin()), 5 what go() would tell (NONE: nothing was begun), 6 (NONE: not DONE)");
        int[][] want = {{0, NONE, NONE}, {0, NONE, NONE}, {0, 0, NONE}, {1, 0, NONE}, {4, 1, 1}};
        for (int state : STATES) {
            MarginTable t = state == NEW ? new MarginTable() : nearAndFar(20, 1, state);
            for (int k = 0; k < 3; k++) {
                due("count(" + (4 + k) + ") in state " + state, t.count(4 + k), want[state][k]);
            }
        }
        MarginTable t = nearAndFar(20, 1, DONE);
        t.begin();
        due("count(4) since begin()", t.count(4), 0);
        due("count(5) since begin()", t.count(5), 0);
        due("count(6) since begin()", t.count(6), NONE);
        t.go(2);
        due("count(4) behind go(2)", t.count(4), 2);
        due("count(6) of two", nearAndFar(1, 6, DONE).count(6), 2);
        due("count(6) of one at THE BOX", nearAndFar(1, 5, DONE).count(6), 1);
    }

    private static long mixed(long... values) {
        long h = 73;
        for (long v : values) {
            h = 31 * h + v;
        }
        return h;
    }

    private static void digestOfEmpty() {
        says("h = 73; then h = 31 h + v for each v: count(0) to count(6)");
        due("digest() of a new one", new MarginTable().digest(), mixed(0, 1, 1, 1, 0, NONE, NONE));
        MarginTable set = with(2, 20, 6);
        due("digest() of what was set", set.digest(), mixed(0, 2, 20, 6, 0, NONE, NONE));
        MarginTable gone = six(DONE);
        while (gone.drop() > 0) {
            due("count(5)", gone.count(5), NONE);
        }
        due("digest() of none left", gone.digest(), mixed(0, 1, 20, 6, 0, NONE, NONE));
    }

    private static void digestByItsParts() {
        says("x, y, LABEL of POINTS; of each STEP step(.., 0) to (.., 2); multiplier() of POINTS, above, below");
        due("with POINTS", nearAndFar(20, 1, WITH_POINTS).digest(),
            mixed(2, 1, 20, 1, 0, NONE, NONE, 1, 0, 1, 4, 0, 1, 0, 0, 0, 0));
        due("when laid", nearAndFar(20, 1, LAID).digest(),
            mixed(2, 1, 20, 1, 0, 0, NONE, 1, 0, 1, 4, 0, 1, 0, 0, 0, 0));
        due("on the way", nearAndFar(20, 1, ON_THE_WAY).digest(),
            mixed(2, 1, 20, 1, 1, 0, NONE, 1, 0, 1, 4, 0, 1, 200, 1, 1, 0, 0, 0, 0));
        due("when DONE", nearAndFar(20, 1, DONE).digest(), mixed(2, 1, 20, 1, 4, 1, 1, 1, 0, 1, 4, 0, 1,
            200, 1, 1, 101, 0, 0, 100, 101, 0, 1, 200, 1, 1, 2, 0, 1));
        MarginTable low = with(1, 1, 1, new int[] {-4, -3, -1});
        due("with what is below 0", low.digest(), mixed(1, 1, 1, 1, 0, NONE, NONE, -4, -3, -1, 0, 0));
    }

    private static void digestWrapsIn64Bits() {
        says("long digest(): h = 31 h + v");
        for (MarginTable t : new MarginTable[] {six(WITH_POINTS), six(DONE), fourWithSquares(DONE)}) {
            BigInteger h = BigInteger.valueOf(73);
            for (long v : partsOfDigest(t)) {
                h = h.multiply(BigInteger.valueOf(31)).add(BigInteger.valueOf(v));
            }
            due("it is beyond 64 bits", h.bitLength() > 64 ? 1 : 0, 1);
            due("digest()", t.digest(), h.longValue());
            due("digest() again", t.digest(), h.longValue());
        }
    }

    /** x, y and LABEL are those of the two that are used here, in their order. */
    private static List<Long> partsOfDigest(MarginTable t) {
        int[][] ofSix = {{1, 2, 1}, {-4, 0, -1}, {3, 3, 1}, {0, -1, -1}, {4, -4, 1}, {0, 0, -1}};
        int[][] ofFour = {{4, 4, 1}, {-4, -4, -1}, {1, -2, 1}, {0, 3, -1}};
        List<Long> parts = new ArrayList<>();
        for (int what = 0; what <= 6; what++) {
            parts.add((long) t.count(what));
        }
        for (int[] point : t.count(0) == 6 ? ofSix : ofFour) {
            for (int v : point) {
                parts.add((long) v);
            }
        }
        for (int i = 0; i < t.count(4); i++) {
            for (int what = 0; what <= 2; what++) {
                parts.add((long) t.step(i, what));
            }
        }
        for (int i = 0; i < t.count(0); i++) {
            parts.add(t.multiplier(i, 0));
            parts.add(t.multiplier(i, 1));
        }
        return parts;
    }
}
