/** One part for each promise of the document, by answers worked out by hand. */
public final class PromisesTest {
    private static final int[] FAR = {Integer.MIN_VALUE, -1000, 1000, Integer.MAX_VALUE};
    private static int right = 0;
    private static int wrong = 0;

    private static void due(int promise, String call, long got, long want) {
        if (got == want) {
            right++;
        } else {
            wrong++;
            System.out.println("promise " + promise + ": " + call + " answered " + got + ", due is " + want);
        }
    }

    public static void main(String[] args) {
        newObject();
        point();
        drop();
        degree();
        box();
        q();
        begin();
        go();
        goneWithChanges();
        refusalsKeepWhatWasBegun();
        step();
        told();
        at();
        multiplier();
        lies();
        slope();
        check();
        change();
        decision();
        predict();
        count();
        digest();
        System.out.println(right + " passed, " + wrong + " failed");
        if (wrong != 0) {
            System.exit(1);
        }
    }

    /** One point at 0, 0: Q is 1, and m(0) = 1 ends where THE BOX does. */
    private static MarginTable atOrigin() {
        MarginTable t = new MarginTable();
        t.point(0, 0, 1);
        return t;
    }

    /** Q is 2, 5; 5, 17: m(0) = 1/2 unless THE BOX is smaller, m(1) = 0. */
    private static MarginTable nearAndFar(int above, int below) {
        MarginTable t = new MarginTable();
        t.box(above, below);
        t.point(1, 0, 1);
        t.point(4, 0, 1);
        t.begin();
        return t;
    }

    private static MarginTable nearAndFarDone(int above, int below) {
        MarginTable t = nearAndFar(above, below);
        t.go(60);
        return t;
    }

    private static void newObject() {
        MarginTable t = new MarginTable();
        int[] counts = {0, 1, 1, 1, 0, MarginTable.NONE, MarginTable.NONE};
        for (int what = 0; what < counts.length; what++) {
            due(1, "count(" + what + ") of a new one", t.count(what), counts[what]);
        }
        due(1, "begin() of a new one", t.begin(), MarginTable.NO);
        due(1, "go(1) of a new one", t.go(1), MarginTable.NO);
        due(1, "NONE", MarginTable.NONE, -1);
        due(1, "BAD", MarginTable.BAD, -2);
        due(1, "NO", MarginTable.NO, -3);
        due(1, "FULL", MarginTable.FULL, -4);
        MarginTable other = new MarginTable();
        other.point(1, 1, 1);
        due(1, "count(0) beside another", t.count(0), 0);
    }

    private static void point() {
        MarginTable t = new MarginTable();
        int[][] bad = {{5, 0, 1}, {-5, 0, 1}, {0, 5, 1}, {0, -5, 1}, {0, 0, 0}, {0, 0, 2}, {0, 0, -2}};
        for (int[] p : bad) {
            due(2, "a bad point", t.point(p[0], p[1], p[2]), MarginTable.BAD);
        }
        for (int far : FAR) {
            due(2, "point(far, 0, 1)", t.point(far, 0, 1), MarginTable.BAD);
            due(2, "point(0, far, 1)", t.point(0, far, 1), MarginTable.BAD);
            due(2, "point(0, 0, far)", t.point(0, 0, far), MarginTable.BAD);
        }
        due(2, "count(0) behind bad ones", t.count(0), 0);
        int[][] edges = {{4, 4, 1}, {-4, -4, -1}, {4, -4, 1}, {-4, 4, -1}, {0, 0, 1}, {0, 0, 1}};
        for (int i = 0; i < edges.length; i++) {
            due(2, "point " + i, t.point(edges[i][0], edges[i][1], edges[i][2]), i);
        }
        due(2, "a seventh", t.point(0, 0, 1), MarginTable.FULL);
        due(2, "a bad seventh", t.point(0, 9, 1), MarginTable.BAD);
        due(2, "count(0) when full", t.count(0), 6);
        MarginTable squares = new MarginTable();
        squares.degree(2);
        for (int i = 0; i < 4; i++) {
            due(2, "point with squares", squares.point(i, i, 1), i);
        }
        due(2, "a fifth with squares", squares.point(0, 0, 1), MarginTable.FULL);
        due(2, "a bad fifth with squares", squares.point(0, 0, 3), MarginTable.BAD);
        squares.degree(1);
        due(2, "a fifth without squares", squares.point(0, 0, 1), 4);
    }

    private static void drop() {
        MarginTable t = new MarginTable();
        due(3, "drop() of none", t.drop(), MarginTable.NO);
        t.point(1, 2, 1);
        t.point(3, 4, -1);
        due(3, "drop() of two", t.drop(), 1);
        due(3, "the first stays", t.q(0, 0), 6);
        due(3, "the last is gone", t.q(1, 1), 1000000);
        due(3, "the number is given again", t.point(2, 2, 1), 1);
        due(3, "with what is new", t.q(1, 1), 9);
        due(3, "drop()", t.drop(), 1);
        due(3, "drop()", t.drop(), 0);
        due(3, "drop() of none again", t.drop(), MarginTable.NO);
    }

    private static void degree() {
        MarginTable t = new MarginTable();
        due(4, "degree(2)", t.degree(2), 1);
        due(4, "degree(2) again", t.degree(2), 2);
        due(4, "degree(1)", t.degree(1), 2);
        int[] bad = {0, 3, -1};
        for (int d : bad) {
            due(4, "degree(" + d + ")", t.degree(d), MarginTable.BAD);
        }
        for (int far : FAR) {
            due(4, "degree(far)", t.degree(far), MarginTable.BAD);
        }
        for (int i = 0; i < 5; i++) {
            t.point(i, 0, 1);
        }
        due(4, "degree(2) with five", t.degree(2), MarginTable.NO);
        due(4, "degree(3) with five", t.degree(3), MarginTable.BAD);
        due(4, "count(1) behind it", t.count(1), 1);
        due(4, "degree(1) with five", t.degree(1), 1);
        t.drop();
        due(4, "degree(2) with four", t.degree(2), 1);
        due(4, "Q then", t.q(2, 3), 49);
    }

    private static void box() {
        MarginTable t = new MarginTable();
        int[][] bad = {{0, 1}, {21, 1}, {1, 0}, {1, 7}, {-1, 1}, {1, -1}};
        for (int[] b : bad) {
            due(5, "box(" + b[0] + ", " + b[1] + ")", t.box(b[0], b[1]), MarginTable.BAD);
        }
        for (int far : FAR) {
            due(5, "box(far, 1)", t.box(far, 1), MarginTable.BAD);
            due(5, "box(1, far)", t.box(1, far), MarginTable.BAD);
        }
        due(5, "above stays", t.count(2), 1);
        due(5, "box(20, 6)", t.box(20, 6), 1);
        due(5, "above is not reduced", t.count(2), 20);
        due(5, "below is not reduced", t.count(3), 6);
        due(5, "box(1, 1)", t.box(1, 1), 1);
        due(5, "above", t.count(2), 1);
        due(5, "below", t.count(3), 1);
    }

    private static void q() {
        MarginTable t = new MarginTable();
        t.point(4, 4, 1);
        t.point(-4, -4, -1);
        t.point(1, -2, 1);
        due(6, "q(0, 0)", t.q(0, 0), 33);
        due(6, "q(0, 1)", t.q(0, 1), 31);
        due(6, "q(1, 1)", t.q(1, 1), 33);
        due(6, "q(0, 2)", t.q(0, 2), -3);
        due(6, "q(2, 0)", t.q(2, 0), -3);
        due(6, "q(1, 2)", t.q(1, 2), -5);
        t.degree(2);
        due(6, "q(0, 0) of squares", t.q(0, 0), 1089);
        due(6, "q(0, 1) of squares", t.q(0, 1), -961);
        due(6, "q(0, 2) of squares", t.q(0, 2), 9);
        int[] bad = {-1, 3, 6, Integer.MIN_VALUE, Integer.MAX_VALUE};
        for (int i : bad) {
            due(6, "q(" + i + ", 0)", t.q(i, 0), 1000000);
            due(6, "q(0, " + i + ")", t.q(0, i), 1000000);
        }
    }

    private static void begin() {
        MarginTable t = new MarginTable();
        due(7, "begin() of none", t.begin(), MarginTable.NO);
        for (int n = 1; n <= 6; n++) {
            t.point(n - 3, 1, 1);
            due(7, "begin() of " + n, t.begin(), 2 * n);
        }
        t.go(60);
        due(7, "begin() anew", t.begin(), 12);
        due(7, "no steps then", t.count(4), 0);
        due(7, "not done then", t.count(5), 0);
        due(7, "no step 0 then", t.step(0, 0), MarginTable.NONE);
        due(7, "at(5, 5, 0) then", t.at(5, 5, 0), 1);
        due(7, "at(5, 5, 1) then", t.at(5, 5, 1), 1);
        due(7, "told(5) then", t.told(5), 5);
        due(7, "no multiplier then", t.multiplier(0, 1), 0);
    }

    private static void go() {
        MarginTable t = atOrigin();
        due(8, "go(1) before begin()", t.go(1), MarginTable.NO);
        t.begin();
        int[] bad = {0, -1, 61, Integer.MIN_VALUE, Integer.MAX_VALUE};
        for (int n : bad) {
            due(8, "go(" + n + ")", t.go(n), MarginTable.BAD);
        }
        due(8, "no step by bad ones", t.count(4), 0);
        due(8, "go(1)", t.go(1), 0);
        due(8, "one step", t.count(4), 1);
        due(8, "go(1) to the end", t.go(1), 1);
        due(8, "two steps", t.count(4), 2);
        due(8, "go(60) when done", t.go(60), 1);
        due(8, "still two steps", t.count(4), 2);
        due(8, "go(61) when done", t.go(61), MarginTable.BAD);
        MarginTable whole = atOrigin();
        whole.begin();
        due(8, "go(60)", whole.go(60), 1);
        due(8, "the same steps", whole.count(4), 2);
        MarginTable exact = atOrigin();
        exact.begin();
        due(8, "go(2)", exact.go(2), 1);
    }

    private static void goneWithChanges() {
        for (int kind = 0; kind < 4; kind++) {
            for (int steps = 0; steps <= 60; steps += 30) {
                MarginTable t = nearAndFar(20, 1);
                if (steps > 0) {
                    t.go(steps);
                }
                changeBy(t, kind);
                String by = " behind a change of kind " + kind;
                due(2 + kind, "go(1)" + by, t.go(1), MarginTable.NO);
                due(2 + kind, "go(0)" + by, t.go(0), MarginTable.BAD);
                due(2 + kind, "told(0)" + by, t.told(0), MarginTable.NONE);
                due(2 + kind, "at(0, 0, 1)" + by, t.at(0, 0, 1), 0);
                due(2 + kind, "step(0, 0)" + by, t.step(0, 0), MarginTable.NONE);
                due(2 + kind, "count(4)" + by, t.count(4), 0);
                due(2 + kind, "count(5)" + by, t.count(5), MarginTable.NONE);
                due(2 + kind, "count(6)" + by, t.count(6), MarginTable.NONE);
                due(2 + kind, "check()" + by, t.check(), MarginTable.NO);
                due(2 + kind, "multiplier(0, 1)" + by, t.multiplier(0, 1), 0);
            }
        }
    }

    private static void changeBy(MarginTable t, int kind) {
        switch (kind) {
            case 0 -> t.point(0, 0, 1);
            case 1 -> t.drop();
            case 2 -> t.degree(1);
            default -> t.box(20, 1);
        }
    }

    private static void refusalsKeepWhatWasBegun() {
        MarginTable t = new MarginTable();
        for (int i = 0; i < 6; i++) {
            t.point(i - 2, 1, i % 2 == 0 ? 1 : -1);
        }
        t.begin();
        t.go(60);
        long before = t.digest();
        due(2, "point when full", t.point(0, 0, 1), MarginTable.FULL);
        due(2, "a bad point", t.point(0, 0, 0), MarginTable.BAD);
        due(4, "degree(2) of six", t.degree(2), MarginTable.NO);
        due(4, "degree(0)", t.degree(0), MarginTable.BAD);
        due(5, "box(0, 0)", t.box(0, 0), MarginTable.BAD);
        due(8, "go(0)", t.go(0), MarginTable.BAD);
        due(20, "digest() behind refusals", t.digest(), before);
        due(8, "go(1) behind refusals", t.go(1), 1);
    }

    private static void step() {
        MarginTable t = atOrigin();
        due(9, "step(0, 0) of nothing", t.step(0, 0), MarginTable.NONE);
        due(9, "step(0, 3) of nothing", t.step(0, 3), MarginTable.BAD);
        t.begin();
        due(9, "step(0, 0) of no step", t.step(0, 0), MarginTable.NONE);
        t.go(60);
        int[][] steps = {{200, 0, 0}, {100, 200, 0}};
        for (int i = 0; i < steps.length; i++) {
            for (int what = 0; what < 3; what++) {
                due(9, "step(" + i + ", " + what + ")", t.step(i, what), steps[i][what]);
            }
        }
        due(9, "step(2, 0)", t.step(2, 0), MarginTable.NONE);
        due(9, "step(-1, 0)", t.step(-1, 0), MarginTable.NONE);
        for (int far : FAR) {
            due(9, "step(far, 2)", t.step(far, 2), MarginTable.NONE);
            due(9, "step(0, far)", t.step(0, far), MarginTable.BAD);
            due(9, "step(far, far)", t.step(far, far), MarginTable.BAD);
        }
        due(9, "step(0, 3)", t.step(0, 3), MarginTable.BAD);
        due(9, "step(0, -1)", t.step(0, -1), MarginTable.BAD);
        stepsWithTies();
    }

    /** All q of the first rows tie: the row whose w comes last is LESS, its 1 being behind more 0. */
    private static void stepsWithTies() {
        for (int n = 1; n <= 6; n++) {
            MarginTable t = new MarginTable();
            for (int i = 0; i < n; i++) {
                t.point(2, 1, 1);
            }
            t.begin();
            t.go(1);
            due(9, "what enters of " + n, t.step(0, 0), 200);
            due(9, "what leaves of " + n, t.step(0, 1), n - 1);
            due(9, "the row of " + n, t.step(0, 2), n - 1);
            t.go(1);
            due(9, "the complement enters of " + n, t.step(1, 0), 100 + n - 1);
        }
    }

    private static void told() {
        MarginTable t = atOrigin();
        due(10, "told(0) of nothing", t.told(0), MarginTable.NONE);
        t.begin();
        due(10, "told(0)", t.told(0), 0);
        due(10, "told(1)", t.told(1), 1);
        t.go(1);
        due(10, "told(0) behind a step", t.told(0), 200);
        t.go(1);
        due(10, "told(0) when done", t.told(0), 100);
        due(10, "told(1) when done", t.told(1), 1);
        due(10, "told(2)", t.told(2), MarginTable.NONE);
        due(10, "told(-1)", t.told(-1), MarginTable.NONE);
        for (int far : FAR) {
            due(10, "told(far)", t.told(far), MarginTable.NONE);
        }
    }

    private static void rows(MarginTable t, long[][] want, long below) {
        for (int r = 0; r < want.length; r++) {
            for (int column = 0; column < want[r].length; column++) {
                String call = "at(" + r + ", " + column + ", ";
                due(11, call + "0)", t.at(r, column, 0), want[r][column]);
                due(11, call + "1)", t.at(r, column, 1), below);
            }
        }
    }

    private static void at() {
        MarginTable t = atOrigin();
        due(11, "at(0, 0, 1) of nothing", t.at(0, 0, 1), 0);
        t.begin();
        rows(t, new long[][] {{1, 0, -1, -1, -1, -1}, {0, 1, 1, 0, -1, 1}}, 1);
        t.go(1);
        rows(t, new long[][] {{-1, 0, 1, 1, 1, 1}, {-1, 1, 2, 1, 0, 2}}, 1);
        t.go(1);
        rows(t, new long[][] {{-1, 0, 1, 1, 1, 1}, {1, 1, 0, -1, -2, 0}}, 1);
        int[] bad = {-1, 6, Integer.MIN_VALUE, Integer.MAX_VALUE};
        for (int b : bad) {
            due(11, "at(0, " + b + ", 1)", t.at(0, b, 1), 0);
            due(11, "at(" + b + ", 0, 1)", t.at(b, 0, 1), 0);
            due(11, "at(0, 0, " + b + ")", t.at(0, 0, b), 0);
        }
        due(11, "at(2, 0, 1)", t.at(2, 0, 1), 0);
        due(11, "at(0, 0, 2)", t.at(0, 0, 2), 0);
        atLaid();
        atFractions();
    }

    private static void atLaid() {
        MarginTable t = nearAndFar(20, 6);
        rows(t, new long[][] {
            {1, 0, 0, 0, -2, -5, -1, 0, -1, -6},
            {0, 1, 0, 0, -5, -17, 0, -1, -1, -6},
            {0, 0, 1, 0, 1, 0, 0, 0, -1, 20},
            {0, 0, 0, 1, 0, 1, 0, 0, -1, 20}}, 1);
    }

    /** z(0) = 6 / 33 = 2 / 11 told by row 0: -1/33 at w(0), 1/33 at z(1) and y. */
    private static void atFractions() {
        MarginTable t = new MarginTable();
        t.box(20, 6);
        t.point(4, 4, -1);
        t.begin();
        t.go(60);
        long[][] want = {{-1, 33}, {0, 1}, {1, 1}, {1, 33}, {1, 33}, {2, 11}};
        for (int column = 0; column < want.length; column++) {
            due(11, "above at column " + column, t.at(0, column, 0), want[column][0]);
            due(11, "below at column " + column, t.at(0, column, 1), want[column][1]);
        }
    }

    private static void fraction(int promise, String what, long above, long below, long wantAbove, long wantBelow) {
        due(promise, what + ", above", above, wantAbove);
        due(promise, what + ", below", below, wantBelow);
    }

    private static void multiplier() {
        MarginTable t = nearAndFar(20, 6);
        due(12, "multiplier(0, 1) before it is done", t.multiplier(0, 1), 0);
        t.go(1);
        due(12, "multiplier(0, 1) on the way", t.multiplier(0, 1), 0);
        t.go(60);
        fraction(12, "m(0)", t.multiplier(0, 0), t.multiplier(0, 1), 1, 2);
        fraction(12, "m(1)", t.multiplier(1, 0), t.multiplier(1, 1), 0, 1);
        int[] bad = {-1, 2, Integer.MIN_VALUE, Integer.MAX_VALUE};
        for (int b : bad) {
            due(12, "multiplier(" + b + ", 1)", t.multiplier(b, 1), 0);
            due(12, "multiplier(0, " + b + ")", t.multiplier(0, b), 0);
        }
        MarginTable small = nearAndFarDone(2, 6);
        fraction(12, "m(0) at THE BOX", small.multiplier(0, 0), small.multiplier(0, 1), 1, 3);
        MarginTable square = new MarginTable();
        square.degree(2);
        square.point(4, 4, -1);
        square.begin();
        square.go(60);
        fraction(12, "m(0) of squares", square.multiplier(0, 0), square.multiplier(0, 1), 1, 1089);
    }

    private static void lies() {
        MarginTable t = nearAndFar(20, 1);
        due(13, "lies(0) before it is done", t.lies(0), MarginTable.NONE);
        due(13, "lies(2) before it is done", t.lies(2), MarginTable.BAD);
        t.go(60);
        due(13, "lies(0) between", t.lies(0), 1);
        due(13, "lies(1) at 0", t.lies(1), 0);
        due(13, "lies(0) at THE BOX", nearAndFarDone(1, 4).lies(0), 2);
        due(13, "lies(0) just at THE BOX", nearAndFarDone(3, 6).lies(0), 2);
        due(13, "lies(2)", t.lies(2), MarginTable.BAD);
        due(13, "lies(-1)", t.lies(-1), MarginTable.BAD);
        for (int far : FAR) {
            due(13, "lies(far)", t.lies(far), MarginTable.BAD);
        }
    }

    private static void slope() {
        MarginTable t = nearAndFar(20, 1);
        due(14, "slope(0, 1) before it is done", t.slope(0, 1), 0);
        t.go(60);
        fraction(14, "slope(0)", t.slope(0, 0), t.slope(0, 1), 0, 1);
        fraction(14, "slope(1)", t.slope(1, 0), t.slope(1, 1), -3, 2);
        MarginTable small = nearAndFarDone(1, 4);
        fraction(14, "slope(0) at THE BOX", small.slope(0, 0), small.slope(0, 1), 1, 2);
        fraction(14, "slope(1) beside it", small.slope(1, 0), small.slope(1, 1), -1, 4);
        int[] bad = {-1, 2, Integer.MIN_VALUE, Integer.MAX_VALUE};
        for (int b : bad) {
            due(14, "slope(" + b + ", 1)", t.slope(b, 1), 0);
            due(14, "slope(0, " + b + ")", t.slope(0, b), 0);
        }
    }

    private static void check() {
        MarginTable t = new MarginTable();
        due(15, "check() of a new one", t.check(), MarginTable.NO);
        MarginTable laid = nearAndFar(20, 1);
        due(15, "check() before it is done", laid.check(), MarginTable.NO);
        laid.go(60);
        due(15, "check()", laid.check(), 1);
        due(15, "check() at THE BOX", nearAndFarDone(1, 4).check(), 1);
        due(15, "check() just at THE BOX", nearAndFarDone(1, 2).check(), 1);
    }

    private static void change() {
        MarginTable t = nearAndFar(20, 6);
        due(16, "change(0, 1, 2) before it is done", t.change(0, 1, 2), MarginTable.NO);
        due(16, "change(0, 4, 1) before it is done", t.change(0, 4, 1), MarginTable.BAD);
        t.go(60);
        due(16, "change(0, 1, 2)", t.change(0, 1, 2), 0);
        due(16, "change(0, 3, 6)", t.change(0, 3, 6), 0);
        due(16, "change(0, 2, 5)", t.change(0, 2, 5), -1);
        due(16, "change(0, 3, 5)", t.change(0, 3, 5), -1);
        due(16, "change(0, 0, 1)", t.change(0, 0, 1), -1);
        due(16, "change(1, 0, 5)", t.change(1, 0, 5), 0);
        due(16, "change(1, 1, 6)", t.change(1, 1, 6), -1);
        due(16, "change(0, 20, 6)", t.change(0, 20, 6), -1);
        due(16, "change(0, 21, 6)", t.change(0, 21, 6), MarginTable.BAD);
        due(16, "change(0, 16, 5)", t.change(0, 16, 5), -1);
        due(16, "change(0, 17, 5)", t.change(0, 17, 5), MarginTable.BAD);
        due(16, "change(0, 1, 0)", t.change(0, 1, 0), MarginTable.BAD);
        due(16, "change(0, 1, 7)", t.change(0, 1, 7), MarginTable.BAD);
        due(16, "change(0, -1, 6)", t.change(0, -1, 6), MarginTable.BAD);
        due(16, "change(0, -1, -6)", t.change(0, -1, -6), MarginTable.BAD);
        due(16, "change(2, 0, 1)", t.change(2, 0, 1), MarginTable.BAD);
        due(16, "change(-1, 0, 1)", t.change(-1, 0, 1), MarginTable.BAD);
        for (int far : FAR) {
            due(16, "change(far, 0, 1)", t.change(far, 0, 1), MarginTable.BAD);
            due(16, "change(0, far, 1)", t.change(0, far, 1), MarginTable.BAD);
            due(16, "change(0, far, 6)", t.change(0, far, 6), MarginTable.BAD);
            due(16, "change(0, 0, far)", t.change(0, 0, far), MarginTable.BAD);
        }
        fraction(16, "m(0) stays", t.multiplier(0, 0), t.multiplier(0, 1), 1, 2);
    }

    private static void decision() {
        MarginTable t = nearAndFar(20, 1);
        due(17, "decision(0, 0, 1) before it is done", t.decision(0, 0, 1), 0);
        t.go(60);
        fraction(17, "decision(0, 0)", t.decision(0, 0, 0), t.decision(0, 0, 1), 1, 2);
        fraction(17, "decision(1, 0)", t.decision(1, 0, 0), t.decision(1, 0, 1), 1, 1);
        fraction(17, "decision(-1, 4)", t.decision(-1, 4, 0), t.decision(-1, 4, 1), 0, 1);
        fraction(17, "decision(-4, -4)", t.decision(-4, -4, 0), t.decision(-4, -4, 1), -3, 2);
        int[] bad = {-5, 5, Integer.MIN_VALUE, Integer.MAX_VALUE};
        for (int b : bad) {
            due(17, "decision(" + b + ", 0, 1)", t.decision(b, 0, 1), 0);
            due(17, "decision(0, " + b + ", 1)", t.decision(0, b, 1), 0);
            due(17, "decision(0, 0, " + b + ")", t.decision(0, 0, b), 0);
        }
        due(17, "decision(0, 0, -1)", t.decision(0, 0, -1), 0);
        due(17, "decision(0, 0, 2)", t.decision(0, 0, 2), 0);
        MarginTable square = new MarginTable();
        square.degree(2);
        square.point(1, 0, -1);
        square.begin();
        square.go(60);
        fraction(17, "decision(2, 3) of squares", square.decision(2, 3, 0), square.decision(2, 3, 1), -9, 4);
    }

    private static void predict() {
        MarginTable t = nearAndFar(20, 1);
        due(18, "predict(0, 0) before it is done", t.predict(0, 0), MarginTable.NO);
        due(18, "predict(5, 0) before it is done", t.predict(5, 0), MarginTable.BAD);
        t.go(60);
        due(18, "predict(4, 4)", t.predict(4, 4), 1);
        due(18, "predict(-1, 4)", t.predict(-1, 4), 0);
        due(18, "predict(-2, -4)", t.predict(-2, -4), -1);
        int[] bad = {-5, 5, Integer.MIN_VALUE, Integer.MAX_VALUE};
        for (int b : bad) {
            due(18, "predict(" + b + ", 0)", t.predict(b, 0), MarginTable.BAD);
            due(18, "predict(0, " + b + ")", t.predict(0, b), MarginTable.BAD);
        }
    }

    private static void count() {
        MarginTable t = nearAndFar(20, 6);
        int[] laid = {2, 1, 20, 6, 0, 0, MarginTable.NONE};
        for (int what = 0; what < laid.length; what++) {
            due(19, "count(" + what + ") when laid", t.count(what), laid[what]);
        }
        t.go(1);
        due(19, "count(4) behind a step", t.count(4), 1);
        due(19, "count(5) behind a step", t.count(5), 0);
        t.go(60);
        due(19, "count(5) when done", t.count(5), 1);
        due(19, "count(6) when done", t.count(6), 1);
        due(19, "count(7)", t.count(7), MarginTable.BAD);
        due(19, "count(-1)", t.count(-1), MarginTable.BAD);
        for (int far : FAR) {
            due(19, "count(far)", t.count(far), MarginTable.BAD);
        }
        t.degree(2);
        due(19, "count(1)", t.count(1), 2);
    }

    private static long mixed(long... values) {
        long h = 73;
        for (long v : values) {
            h = 31 * h + v;
        }
        return h;
    }

    private static void digest() {
        due(20, "digest() of a new one", new MarginTable().digest(), mixed(0, 1, 1, 1, 0, -1, -1));
        MarginTable t = atOrigin();
        due(20, "digest() of a point", t.digest(), mixed(1, 1, 1, 1, 0, -1, -1, 0, 0, 1, 0, 0));
        t.begin();
        due(20, "digest() when laid", t.digest(), mixed(1, 1, 1, 1, 0, 0, -1, 0, 0, 1, 0, 0));
        t.go(1);
        due(20, "digest() on the way", t.digest(), mixed(1, 1, 1, 1, 1, 0, -1, 0, 0, 1, 200, 0, 0, 0, 0));
        t.go(1);
        long done = mixed(1, 1, 1, 1, 2, 1, 1, 0, 0, 1, 200, 0, 0, 100, 200, 0, 1, 1);
        due(20, "digest() when done", t.digest(), done);
        due(20, "digest() again", t.digest(), done);
    }
}
