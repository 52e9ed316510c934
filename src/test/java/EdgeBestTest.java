import java.util.Random;

/** The edges of what rules leave, the best, fronts, near plans, clashes and reasons: promises 25 to 46. */
public final class EdgeBestTest {
    private static final int LEAST = Integer.MIN_VALUE;
    private static final int MOST = Integer.MAX_VALUE;
    /** As many plans as there may be. */
    private static final String LARGE = "var a in 0..19;var b in 0..19;var c in 0..9;var d in 0..4;";

    public static void main(String[] args) {
        reach();
        isLeft();
        hopeless();
        noneFeasible();
        solve();
        bests();
        feasibles();
        has();
        choices();
        mend();
        front();
        largeFront();
        manyFronts();
        near();
        twelveClash();
        oneClashes();
        noClash();
        relax();
        without();
        whyNot();
        because();
        Due.end();
    }

    /** A house of a problem of which no plan is feasible; other things are under way. */
    private static PlanningHouse hopelessHouse() {
        PlanningHouse x = new PlanningHouse();
        Due.read(x, "fact f=9;var a in 0..3;var b in{2,-1,5};rule h at 0*1:a#1;rule i at 0*2:a>f;rule s at 1*2:a<=b;aim m at 1:a;");
        x.put(0, 0, 2);
        x.put(0, 1, 5);
        x.pin(0, 1, true);
        x.future(0, 4);
        x.told(0, 0, 0, 1);
        x.expected(0, 1);
        x.save(0);
        Due.type(x, "tape");
        return x;
    }

    // ---- what rules leave

    private static void reach() {
        Edge.of(25, "What is LEFT is worked out: how many values, of all vars together; NONE without the problem.");
        Due.is("all of the largest", Due.of(LARGE).reach(0), 55);
        Due.is("all of twelve", Due.of("var a in 0..1;var b in 0..1;var c in 0..1;var d in 0..1;var e in 0..1;var f in 0..1;var g in 0..1;"
            + "var h in 0..1;var i in 0..1;var j in 0..1;var k in 0..1;var l in 0..1;rule r at 0*1:l=1;rule s at 0*1:a=0;").reach(0), 22);
        Due.is("soft rules leave all", Due.of("var a in 0..3;rule s at 1*1:a=9;rule t at 2*1:a=0;aim m at 1:a;").reach(0), 4);
        Due.is("without the problem", new PlanningHouse().reach(0), PlanningHouse.NONE);
        Edge.of(Edge.TERMS, "again and again a value goes, if for some hard rule there is no plan of values that are left in which the var has it"
            + " and the rule is not broken; until none goes.");
        PlanningHouse x = Due.of("var a in 0..19;var b in 0..19;rule r at 0*1:a<b;rule s at 0*1:b<a|a=19;");
        Due.is("one after the other until the end", x.reach(0), 0);
        PlanningHouse y = Due.of("var a in 0..19;var b in 0..19;rule r at 0*1:a<b;rule s at 0*1:b<a|a=18;");
        Due.is("until two are left", y.reach(0), 2);
        Due.left(y, 0, "18");
        Due.left(y, 1, "19");
        PlanningHouse z = Due.of("var a in 0..1;var b in 0..1;rule r at 0*1:a=b;rule s at 0*1:a#b;");
        Due.is("each rule for itself leaves all", z.reach(0), 4);
        PlanningHouse w = Due.of("var a in 0..1;var b in 0..9;rule r at 0*1:a>1;");
        Due.is("none of a, so none of b", w.reach(0), 0);
        Due.left(w, 1, "");
        Edge.of(Edge.TERMS, "for each var its range (of a pinned one its value at hand)");
        PlanningHouse v = Due.of("var a in 0..3;var b in 0..3;rule r at 0*1:a+b=4;");
        Due.is("without pins", v.reach(0), 6);
        v.put(0, 0, 2);
        Due.is("the plan at hand does not matter", v.reach(0), 6);
        v.pin(0, 0, true);
        Due.is("with a pin", v.reach(0), 2);
        Due.left(v, 0, "2");
        Due.left(v, 1, "2");
        v.put(0, 0, 0);
        Due.is("with a pin that can't be", v.reach(0), 0);
        Due.is("reach changes nothing", v.value(0, 0), 0);
    }

    private static void isLeft() {
        Edge.of(26, "Whether value k of the range of var v is left, as things are now.");
        PlanningHouse x = Due.of("fact f=0;var a in 0..19;var b in{7};rule r at 0*1:a>=f;");
        for (int k = 0; k < 20; k++) Due.is("isLeft", x.isLeft(0, 0, k), true);
        for (int k : new int[] {-1, 20, 21, 31, 32, 33, 64, LEAST, MOST}) Due.is("value " + k, x.isLeft(0, 0, k), false);
        Due.is("the only one", x.isLeft(0, 1, 0), true);
        for (int k : new int[] {-1, 1, 2, 32}) Due.is("value " + k, x.isLeft(0, 1, k), false);
        x.change(0, 0, 19);
        for (int k = 0; k < 20; k++) Due.is("as things are now", x.isLeft(0, 0, k), k == 19);
        x.put(0, 0, 18);
        x.pin(0, 0, true);
        Due.is("as things are now", x.isLeft(0, 0, 19), false);
        Due.is("the other one, too", x.isLeft(0, 1, 0), false);
        x.pin(0, 0, false);
        Due.is("as things are now", x.isLeft(0, 0, 19), true);
    }

    private static void hopeless() {
        Edge.of(27, "The first hard rule r for which, as things are now, there is no plan of all ranges (pinned vars have their values)"
            + " that does not break it; NONE when there is none such.");
        PlanningHouse x = Due.of("fact f=3;var a in 0..3;rule s at 1*1:a>9;rule h at 0*1:a>=f;rule i at 0*1:a>f-1;");
        Due.is("one plan is enough", x.hopeless(0), PlanningHouse.NONE);
        x.change(0, 0, 4);
        Due.is("the first of both", x.hopeless(0), 1);
        x.change(0, 0, 3);
        x.pin(0, 0, true);
        Due.is("pinned to 0", x.hopeless(0), 1);
        x.put(0, 0, 3);
        Due.is("pinned to 3", x.hopeless(0), PlanningHouse.NONE);
        Due.is("without hard rules", Due.of("var a in 0..3;rule s at 1*1:a>9;").hopeless(0), PlanningHouse.NONE);
        PlanningHouse y = Due.of("var a in 0..3;rule h at 0*1:a=1;rule i at 0*1:a=2;");
        Due.is("both clash, but each has a plan", y.hopeless(0), PlanningHouse.NONE);
        StringBuilder text = new StringBuilder("var a in 0..3;");
        for (int r = 0; r < 23; r++) text.append("rule r").append(r).append(r < 11 ? " at 0*1:a<9;" : " at 1*1:a>9;");
        Due.is("the last rule of all", Due.of(text + "rule z at 0*1:a>9;").hopeless(0), 23);
    }

    // ---- the best

    private static void noneFeasible() {
        Edge.of(28, "The first of the BEST plans is at hand then: 1; 0, and nothing changes, when no allowed plan is feasible.");
        Edge.refused("solve", EdgeBestTest::hopelessHouse, x -> x.solve(0), 0);
        Edge.of(29, "NO when there are none, or no such level.");
        for (int level = 0; level < 3; level++) {
            int at = level;
            Edge.refused("best", EdgeBestTest::hopelessHouse, x -> x.best(0, at), PlanningHouse.NO);
        }
        Edge.of(30, "How many BEST plans there are.");
        Edge.refused("bests", EdgeBestTest::hopelessHouse, x -> x.bests(0), 0);
        Edge.of(31, "False when there are not so many.");
        Edge.refused("bestAt", EdgeBestTest::hopelessHouse, x -> Edge.bit(x.bestAt(0, 0)), 0);
        Edge.of(33, "False when there are not so many.");
        Edge.refused("feasibleAt", EdgeBestTest::hopelessHouse, x -> Edge.bit(x.feasibleAt(0, 0)), 0);
        Edge.of(32, "How many feasible allowed plans there are.");
        Edge.refused("feasibles", EdgeBestTest::hopelessHouse, x -> x.feasibles(0), 0);
        Edge.of(35, "(0 when there are none)");
        Edge.refused("choices", EdgeBestTest::hopelessHouse, x -> x.choices(0, 0), 0);
        Edge.of(36, "0, and nothing changes, when none is feasible.");
        for (int set : new int[] {0, 1, 2, 3, -1}) Edge.refused("mend", EdgeBestTest::hopelessHouse, x -> x.mend(0, set), 0);
        Edge.of(37, "How many pairs THE FRONT has.");
        Edge.refused("front", EdgeBestTest::hopelessHouse, x -> x.front(0), 0);
        Edge.of(38, "NO when there is none such.");
        Edge.refused("frontAt", EdgeBestTest::hopelessHouse, x -> x.frontAt(0, 0, 0), PlanningHouse.NO);
        Edge.of(39, "False when there is none such.");
        Edge.refused("frontPlan", EdgeBestTest::hopelessHouse, x -> Edge.bit(x.frontPlan(0, 0)), 0);
        Edge.of(40, "NONE, and nothing changes, when there is none.");
        Edge.refused("near", EdgeBestTest::hopelessHouse, x -> x.near(0, false), PlanningHouse.NONE);
        Edge.refused("near, best", EdgeBestTest::hopelessHouse, x -> x.near(0, true), PlanningHouse.NONE);
        Edge.of(44, "NO when none is feasible then");
        Edge.refused("without", EdgeBestTest::hopelessHouse, x -> x.without(0, 0, 1), PlanningHouse.NO);
        Edge.of(45, "NO when there is none, or no such level.");
        Edge.refused("whyNot", EdgeBestTest::hopelessHouse, x -> x.whyNot(0, 0, 2, 1), PlanningHouse.NO);
        Edge.of(46, "NONE when there is none such, or no such plan.");
        Edge.refused("because", EdgeBestTest::hopelessHouse, x -> x.because(0, 0, 2), PlanningHouse.NONE);
        Edge.of(34, "(0 / 1 without any)");
        for (int n = 0; n < 2; n++) {
            PlanningHouse x = hopelessHouse();
            Due.is("the board before", x.below() > 1 || x.above() != 0, true);
            Due.is("has", x.has(0, 0, 2, n == 1), 0);
            Due.board(x, 0, 1);
        }
    }

    private static void solve() {
        Edge.of(28, "The first of the BEST plans is at hand then: 1; 0, and nothing changes, when no allowed plan is feasible.");
        PlanningHouse x = Due.of(LARGE + "rule h at 0*1:a+b+c+d>=51;");
        Due.is("one plan alone", x.solve(0), 1);
        Due.planIs(x, 0, "19 19 9 4");
        PlanningHouse y = Due.of("var a in 0..3;rule h at 0*1:a>=1;rule s at 1*1:a#2;aim m at 2:-a;");
        Due.is("solve", y.solve(0), 1);
        Due.planIs(y, 0, "3");
        y.put(0, 0, 0);
        y.pin(0, 0, true);
        Due.is("the only allowed one is not feasible", y.solve(0), 0);
        Due.planIs(y, 0, "0");
        y.put(0, 0, 1);
        Due.is("the only allowed one is", y.solve(0), 1);
        Due.planIs(y, 0, "1");
        Edge.of(Edge.TERMS, "A plan is BETTER if its score is less at level 0, or the same there and less at 1, or the same at both and less at 2.");
        PlanningHouse z = Due.of("var a in 0..4;rule h at 0*1:a>=1;aim m at 1:pick(a:-9,3,2,2,2);aim n at 2:pick(a:-9,-9,5,4,4);");
        z.solve(0);
        Due.planIs(z, 0, "3");
        Due.is("of the best the first", z.bests(0), 2);
        long[] want = {0, 2, 4};
        for (int level = 0; level < 3; level++) Due.is("best", z.best(0, level), want[level]);
    }

    private static void bests() {
        Edge.of(31, "BEST plan k, from the first on, is at hand then: true. False when there are not so many.");
        PlanningHouse x = Due.of(LARGE);
        Due.is("bests", x.bests(0), 20000);
        Due.is("bestAt", x.bestAt(0, 19999), true);
        Due.planIs(x, 0, "19 19 9 4");
        for (int k : new int[] {-1, 20000, LEAST, MOST}) {
            Due.is("bestAt " + k, x.bestAt(0, k), false);
            Due.planIs(x, 0, "19 19 9 4");
        }
        Due.is("bestAt", x.bestAt(0, 0), true);
        Due.planIs(x, 0, "0 0 0 0");
        PlanningHouse y = Due.of("var a in 0..9;rule h at 0*1:a>=2;aim m at 1:[a<7];");
        Due.is("bests", y.bests(0), 3);
        for (int k = 0; k < 3; k++) {
            Due.is("bestAt", y.bestAt(0, k), true);
            Due.is("the value", y.value(0, 0), 7 + k);
        }
        Due.is("bestAt 3", y.bestAt(0, 3), false);
        Due.is("the value stays", y.value(0, 0), 9);
        y.put(0, 0, 4);
        y.pin(0, 0, true);
        Due.is("the best allowed one", y.bests(0), 1);
    }

    private static void feasibles() {
        Edge.of(33, "Feasible allowed plan k, from the first on, is at hand then: true. False when there are not so many.");
        PlanningHouse x = Due.of(LARGE);
        Due.is("feasibles", x.feasibles(0), 20000);
        Due.is("feasibleAt", x.feasibleAt(0, 19999), true);
        Due.planIs(x, 0, "19 19 9 4");
        Due.is("feasibleAt", x.feasibleAt(0, 12345), true);
        Due.planIs(x, 0, "12 6 9 0");
        for (int k : new int[] {-1, 20000, LEAST, MOST}) {
            Due.is("feasibleAt " + k, x.feasibleAt(0, k), false);
            Due.planIs(x, 0, "12 6 9 0");
        }
        x.pin(0, 1, true);
        Due.is("allowed ones", x.feasibles(0), 1000);
        Due.is("the last allowed one", x.feasibleAt(0, 999), true);
        Due.planIs(x, 0, "19 6 9 4");
        Due.is("one more", x.feasibleAt(0, 1000), false);
        PlanningHouse y = Due.of("var a in 0..9;rule h at 0*1:a>=2;aim m at 1:-a;");
        Due.is("feasibles, not the best alone", y.feasibles(0), 8);
        Due.is("the first one", y.feasibleAt(0, 0), true);
        Due.planIs(y, 0, "2");
    }

    private static void has() {
        Edge.of(34, "In how many feasible allowed plans (or, best, in how many of the BEST) var v has a value; the board shows that by all of these");
        PlanningHouse x = Due.of(LARGE + "aim m at 2:d;");
        Due.is("has", x.has(0, 3, 4, false), 4000);
        Due.board(x, 1, 5);
        Due.is("has", x.has(0, 3, 0, true), 4000);
        Due.board(x, 1, 1);
        Due.is("has", x.has(0, 3, 1, true), 0);
        Due.board(x, 0, 1);
        Due.is("has", x.has(0, 0, 19, true), 200);
        Due.board(x, 1, 20);
        for (int value : new int[] {-1, 5, LEAST, MOST}) {
            x.has(0, 0, 19, true);
            Due.is("a value of no range", x.has(0, 3, value, false), 0);
            Due.board(x, 0, 1);
        }
        PlanningHouse y = Due.of("var a in 0..5;rule h at 0*1:a#3;");
        Due.is("has", y.has(0, 0, 3, false), 0);
        Due.board(y, 0, 1);
        Due.is("has", y.has(0, 0, 4, false), 1);
        Due.board(y, 1, 5);
        Due.is("no such var", y.has(0, 1, 4, false), PlanningHouse.NONE);
        Due.board(y, 1, 5);
        Edge.of(57, "what stands above the line of the fraction shown last, in least terms, with the sign.");
        PlanningHouse z = Due.of("var a in 0..3;var b in 0..2;rule h at 0*1:a>0|b>0;");
        Due.is("has", z.has(0, 1, 0, false), 3);
        Due.board(z, 3, 11);
        z.pin(0, 0, true);
        z.put(0, 0, 1);
        Due.is("has", z.has(0, 1, 0, false), 1);
        Due.board(z, 1, 3);
    }

    private static void choices() {
        Edge.of(35, "How many different values var v has in the BEST plans (0 when there are none); NONE when there is no such var.");
        PlanningHouse x = Due.of(LARGE + "rule s at 1*1:b=19|b=0;rule t at 1*1:c=9;");
        int[] want = {20, 2, 1, 5};
        for (int v = 0; v < 4; v++) Due.is("choices", x.choices(0, v), want[v]);
        x.pin(0, 0, true);
        Due.is("choices of a pinned one", x.choices(0, 0), 1);
        PlanningHouse y = Due.of("var a in 0..3;rule s at 1*1:a=0|a=3;");
        Due.is("the first and the last", y.choices(0, 0), 2);
    }

    private static void mend() {
        Edge.of(36, "The vars of a set (bits; others count as none) are free, all others as they are at hand, pins do not matter");
        StringBuilder text = new StringBuilder();
        for (int i = 0; i < 12; i++) text.append("var v").append(i).append(" in 0..1;");
        String sum = "v0+v1+v2+v3+v4+v5+v6+v7+v8+v9+v10+v11";
        PlanningHouse x = Due.of(text + "rule h at 0*1:" + sum + ">=1;aim m at 1:" + sum + ";");
        Due.is("none free", x.mend(0, 0), 0);
        for (int set : new int[] {1 << 12, 1 << 15, 1 << 31, -1 << 12}) Due.is("bits of no var", x.mend(0, set), 0);
        Due.planIs(x, 0, "0 0 0 0 0 0 0 0 0 0 0 0");
        Due.is("the last var", x.mend(0, 1 << 11), 1);
        Due.planIs(x, 0, "0 0 0 0 0 0 0 0 0 0 0 1");
        Due.is("it stays, if none is free", x.mend(0, -1 << 12), 1);
        Due.planIs(x, 0, "0 0 0 0 0 0 0 0 0 0 0 1");
        Due.is("the first var", x.mend(0, 1), 1);
        Due.planIs(x, 0, "0 0 0 0 0 0 0 0 0 0 0 1");
        for (int v = 0; v < 12; v++) x.put(0, v, 1);
        for (int v = 0; v < 12; v++) x.pin(0, v, true);
        Due.is("pins do not matter", x.mend(0, 1 << 0 | 1 << 5 | 1 << 11), 1);
        Due.planIs(x, 0, "0 1 1 1 1 0 1 1 1 1 1 0");
        Due.is("all are free", x.mend(0, -1), 1);
        Due.planIs(x, 0, "0 0 0 0 0 0 0 0 0 0 0 1");
        Due.is("all are pinned still", x.count(0, 5), 1);
        PlanningHouse y = Due.of("var a in 0..3;var b in 0..3;rule h at 0*1:a+b>=2;aim m at 1:a;aim n at 2:b;");
        y.put(0, 1, 3);
        Due.is("the first of the best", y.mend(0, 2), 1);
        Due.planIs(y, 0, "0 2");
    }

    // ---- several aims, near plans

    private static void pair(PlanningHouse x, int k, long plans, long one, long two) {
        Due.is("plans of pair " + k, x.frontAt(0, k, 0), plans);
        Due.is("level 1 of pair " + k, x.frontAt(0, k, 1), one);
        Due.is("level 2 of pair " + k, x.frontAt(0, k, 2), two);
    }

    private static void front() {
        Edge.of(Edge.TERMS, "pairs of scores at level 1 and level 2 that a feasible allowed plan has, and for which no feasible allowed plan"
            + " is less at one of both and not more at the other one; by the first ones, rising.");
        // of a: 5 1, 1 5, 3 3, 3 4, 4 3, 1 5, 0 9, 0 0 (not feasible)
        PlanningHouse x = Due.of("var a in 0..7;rule h at 0*1:a<7;aim m at 1:pick(a:5,1,3,3,4,1,0,0);aim n at 2:pick(a:1,5,3,4,3,5,9,0);");
        Due.is("front", x.front(0), 4);
        pair(x, 0, 1, 0, 9);
        pair(x, 1, 2, 1, 5);
        pair(x, 2, 1, 3, 3);
        pair(x, 3, 1, 5, 1);
        for (int k : new int[] {-1, 4, 5, LEAST, MOST}) {
            for (int what = 0; what < 3; what++) Due.is("pair " + k, x.frontAt(0, k, what), PlanningHouse.NO);
            Due.is("frontPlan " + k, x.frontPlan(0, k), false);
        }
        for (int what : new int[] {-1, 3, LEAST, MOST}) Due.is("what " + what, x.frontAt(0, 0, what), PlanningHouse.NO);
        Due.planIs(x, 0, "0");
        int[] first = {6, 1, 2, 0};
        for (int k = 0; k < 4; k++) {
            Due.is("frontPlan", x.frontPlan(0, k), true);
            Due.is("the first plan of the pair", x.value(0, 0), first[k]);
        }
        x.put(0, 0, 5);
        x.pin(0, 0, true);
        Due.is("front of one", x.front(0), 1);
        pair(x, 0, 1, 1, 5);
        PlanningHouse y = Due.of("var a in 0..3;aim m at 1:1-a;aim n at 2:2*a-3;");
        Due.is("scores below 0", y.front(0), 4);
        pair(y, 0, 1, -2, 3);
        pair(y, 3, 1, 1, -3);
        PlanningHouse z = Due.of("var a in 0..3;rule h at 0*1:a>=0;");
        Due.is("all have one pair", z.front(0), 1);
        pair(z, 0, 4, 0, 0);
    }

    private static void largeFront() {
        Edge.of(37, "How many pairs THE FRONT has.");
        PlanningHouse x = Due.of(LARGE + "aim m at 1:1000*a+50*b+5*c+d;aim n at 2:-(1000*a+50*b+5*c+d);");
        Due.is("as many as there are plans", x.front(0), 20000);
        pair(x, 0, 1, 0, 0);
        pair(x, 19999, 1, 19999, -19999);
        Due.is("frontPlan", x.frontPlan(0, 19999), true);
        Due.planIs(x, 0, "19 19 9 4");
        Due.is("frontPlan", x.frontPlan(0, 20000), false);
        Due.is("frontAt", x.frontAt(0, 20000, 0), PlanningHouse.NO);
        PlanningHouse y = Due.of(LARGE + "aim m at 1:a;aim n at 2:-b;");
        Due.is("one pair of many", y.front(0), 1);
        pair(y, 0, 50, 0, -19);
    }

    /** Of one var with so many values: each pair is looked at with all others. */
    private static void manyFronts() {
        Edge.of(39, "The first plan of pair k of the front is at hand then: true.");
        Random random = new Random(39);
        for (int n = 0; n < 200; n++) {
            int plans = 1 + n % 20;
            int[][] scores = new int[plans][2];
            StringBuilder one = new StringBuilder();
            StringBuilder two = new StringBuilder();
            for (int a = 0; a < plans; a++) {
                scores[a][0] = random.nextInt(2 + n / 15) - 3;
                scores[a][1] = random.nextInt(2 + n / 15) - 3;
                one.append(a == 0 ? "" : ",").append(scores[a][0]);
                two.append(a == 0 ? "" : ",").append(scores[a][1]);
            }
            PlanningHouse x = Due.of("var a in 0.." + (plans - 1) + ";aim m at 1:pick(a:" + one + ");aim n at 2:pick(a:" + two + ");");
            int pairs = 0;
            for (int level = -3; level < 20; level++) {
                int first = -1;
                int many = 0;
                for (int a = 0; a < plans; a++) {
                    if (scores[a][0] != level || isBeaten(scores, a)) continue;
                    if (first < 0) first = a;
                    many++;
                }
                if (many == 0) continue;
                pair(x, pairs, many, level, scores[first][1]);
                Due.is("frontPlan", x.frontPlan(0, pairs), true);
                Due.is("the first plan", x.value(0, 0), first);
                pairs++;
            }
            Due.is("front", x.front(0), pairs);
        }
    }

    private static boolean isBeaten(int[][] scores, int a) {
        for (int[] other : scores) {
            if (other[0] < scores[a][0] && other[1] <= scores[a][1] || other[0] <= scores[a][0] && other[1] < scores[a][1]) return true;
        }
        return false;
    }

    private static void near() {
        Edge.of(40, "that which differs from the plan at hand in vars whose COSTS are least together, of several the first, is at hand then: these costs.");
        StringBuilder text = new StringBuilder();
        for (int i = 0; i < 12; i++) text.append("var v").append(i).append(" in 0..1;");
        PlanningHouse x = Due.of(text + "rule h at 0*1:v0+v1+v2+v3+v4+v5+v6+v7+v8+v9+v10+v11=12;");
        for (int v = 0; v < 12; v++) x.weigh(0, v, 1000);
        Due.is("all differ", x.near(0, false), 12000);
        Due.planIs(x, 0, "1 1 1 1 1 1 1 1 1 1 1 1");
        Due.is("none differs", x.near(0, true), 0);
        PlanningHouse y = Due.of("var a in 0..3;var b in 0..3;rule h at 0*1:a+b=3;aim m at 1:a;");
        y.put(0, 0, 1);
        y.put(0, 1, 1);
        Due.is("of several the first", y.near(0, false), 1);
        Due.planIs(y, 0, "1 2");
        y.put(0, 1, 1);
        y.weigh(0, 1, 2);
        Due.is("by the cheaper one", y.near(0, false), 1);
        Due.planIs(y, 0, "2 1");
        Due.is("the best one", y.near(0, true), 3);
        Due.planIs(y, 0, "0 3");
        y.weigh(0, 0, 0);
        y.weigh(0, 1, 0);
        y.put(0, 0, 3);
        Due.is("costs of 0: the first", y.near(0, false), 0);
        Due.planIs(y, 0, "0 3");
        y.put(0, 0, 2);
        y.pin(0, 0, true);
        y.weigh(0, 1, 1000);
        Due.is("allowed ones alone", y.near(0, false), 1000);
        Due.planIs(y, 0, "2 1");
    }

    // ---- none, and why

    /** Twelve rules behind twelve soft ones, of which any eleven can hold together. */
    private static PlanningHouse twelve(int cheap, int cost) {
        StringBuilder text = new StringBuilder("var a in 0..11;");
        for (int r = 0; r < 12; r++) text.append("rule s").append(r).append(" at 1*1:a=99;");
        for (int r = 0; r < 12; r++) text.append("rule h").append(r).append(" at 0*").append(r == cheap ? cost : 1000).append(":a#").append(r).append(";");
        return Due.of(text.toString());
    }

    private static void twelveClash() {
        Edge.of(41, "the set that is left in the end; 0 when all hard rules together don't clash.");
        Edge.of(42, "Of the sets of hard rules that CLASH that with the fewest rules, of several the least number");
        Edge.of(43, "that whose weights are least together, of several the least number");
        PlanningHouse x = twelve(11, 999);
        Due.is("clash", x.clash(0), 0xFFF000);
        Due.is("fewest", x.fewest(0), 0xFFF000);
        Due.is("relax", x.relax(0), 1 << 23);
        Due.is("of several the least number", twelve(0, 1000).relax(0), 1 << 12);
        Due.is("the cheapest", twelve(5, 1).relax(0), 1 << 17);
        x.put(0, 0, 7);
        x.pin(0, 0, true);
        Due.is("each allowed plan breaks it", x.clash(0), 1 << 19);
        Due.is("fewest", x.fewest(0), 1 << 19);
        Due.is("relax", x.relax(0), 1 << 19);
        Due.planIs(x, 0, "7");
    }

    private static void oneClashes() {
        Edge.of(Edge.TERMS, "A set of hard rules CLASHES if each allowed plan breaks one of them.");
        StringBuilder text = new StringBuilder("var a in 0..3;rule s at 1*1:a=9;");
        for (int r = 0; r < 12; r++) text.append("rule h").append(r).append(" at 0*1000:a>").append(9 + r).append(";");
        PlanningHouse x = Due.of(text.toString());
        Due.is("the last one is left", x.clash(0), 1 << 12);
        Due.is("the least number", x.fewest(0), 1 << 1);
        Due.is("all must go", x.relax(0), 0xFFF << 1);
        PlanningHouse y = Due.of("var a in 0..3;rule h at 0*5:a>1;rule i at 0*4:a<2;rule j at 0*1:a#2;rule k at 0*1:a#3;");
        // h and i clash, and h, j and k do
        Due.is("clash", y.clash(0), 0b1101);
        Due.is("fewest", y.fewest(0), 0b0011);
        Due.is("relax", y.relax(0), 0b0001);
        PlanningHouse z = Due.of("var a in 0..3;rule h at 0*6:a>1;rule i at 0*4:a<2;rule j at 0*1:a#2;rule k at 0*1:a#3;");
        Due.is("relax by weights", z.relax(0), 0b0110);
    }

    private static void noClash() {
        Edge.of(42, "0 when all hard rules together don't clash (or there is none).");
        Edge.of(43, "0 when none needs to go. NONE without the problem.");
        PlanningHouse x = Due.of("var a in 0..3;rule h at 0*1:a>2;rule s at 1*1:a<1;");
        PlanningHouse y = Due.of("var a in 0..3;rule s at 1*1:a>9;");
        for (PlanningHouse z : new PlanningHouse[] {x, y}) {
            Due.is("clash", z.clash(0), 0);
            Due.is("fewest", z.fewest(0), 0);
            Due.is("relax", z.relax(0), 0);
            Due.planIs(z, 0, "0");
        }
        x.pin(0, 0, true);
        Due.is("with a pin", x.clash(0), 1);
        x.put(0, 0, 3);
        Due.is("with another one", x.clash(0), 0);
    }

    private static void relax() {
        Edge.of(43, "Of the sets of hard rules without which those that are left don't clash that whose weights are least together");
        PlanningHouse x = Due.of("var a in 0..3;rule h at 0*1:a=0;rule i at 0*1:a=1;rule j at 0*1:a=2;rule k at 0*3:a=3;");
        Due.is("all but the dearest", x.relax(0), 0b0111);
        PlanningHouse y = Due.of("var a in 0..3;rule h at 0*1:a=0;rule i at 0*1:a=1;rule j at 0*1:a=2;rule k at 0*1:a=3;");
        Due.is("of several the least number", y.relax(0), 0b0111);
        PlanningHouse z = Due.of("var a in 0..1;rule h at 0*3:a=0;rule i at 0*1:a=1;rule j at 0*1:a>0;rule k at 0*1:a>=1;");
        Due.is("one of three or three of one", z.relax(0), 0b0001);
        PlanningHouse w = Due.of("var a in 0..1;rule h at 0*4:a=0;rule i at 0*1:a=1;rule j at 0*1:a>0;rule k at 0*1:a>=1;");
        Due.is("three of one", w.relax(0), 0b1110);
    }

    private static void without() {
        Edge.of(44, "The score of the BEST at a level, if rule r were not there; NO when none is feasible then, or there is no such rule or level.");
        PlanningHouse x = Due.of("var a in 0..3;rule h at 0*1:a=1;rule i at 0*1:a=2;rule s at 1*1000:a=0;aim m at 2:-a;");
        Due.is("without h", x.without(0, 0, 1), 2000);
        Due.is("without i", x.without(0, 1, 1), 1000);
        Due.is("without i at level 0", x.without(0, 1, 0), 0);
        Due.is("without i at level 2", x.without(0, 1, 2), -1);
        Due.is("without s none is feasible", x.without(0, 2, 1), PlanningHouse.NO);
        x.pin(0, 0, true);
        Due.is("no allowed plan", x.without(0, 0, 1), PlanningHouse.NO);
        PlanningHouse y = Due.of("var a in 0..3;rule s at 1*1:a=0;rule t at 2*5:a=3;");
        Due.is("without s, level 1", y.without(0, 0, 1), 0);
        Due.is("without s, level 2", y.without(0, 0, 2), 0);
        Due.is("without t, level 2", y.without(0, 1, 2), 0);
        Due.is("with both", y.best(0, 2), 15);
        Due.planIs(y, 0, "0");
    }

    private static void whyNot() {
        Edge.of(45, "The score at a level of the best of all feasible allowed plans in which var v has a value; NO when there is none, or no such level.");
        PlanningHouse x = Due.of("var a in 0..3;var b in 0..3;rule h at 0*1:a+b<=3;aim m at 1:-(a*10)-b;aim n at 2:b;");
        for (int a = 0; a < 4; a++) {
            Due.is("level 0", x.whyNot(0, 0, a, 0), 0);
            Due.is("level 1", x.whyNot(0, 0, a, 1), -10 * a - (3 - a));
            Due.is("level 2", x.whyNot(0, 0, a, 2), 3 - a);
        }
        for (int value : new int[] {-1, 4, LEAST, MOST}) Due.is("no value", x.whyNot(0, 0, value, 1), PlanningHouse.NO);
        x.put(0, 1, 3);
        x.pin(0, 1, true);
        Due.is("not feasible", x.whyNot(0, 0, 1, 1), PlanningHouse.NO);
        Due.is("feasible", x.whyNot(0, 0, 0, 1), -3);
        Due.is("not allowed", x.whyNot(0, 1, 2, 1), PlanningHouse.NO);
        Due.planIs(x, 0, "0 3");
    }

    private static void because() {
        Edge.of(46, "The first rule that the first of the best feasible allowed plans in which var v has a value breaks by more than the first BEST plan;"
            + " NONE when there is none such, or no such plan.");
        StringBuilder text = new StringBuilder("var a in 0..4;rule h at 0*1:a#4;aim m at 1:[a#2];");
        for (int r = 1; r < 23; r++) text.append("rule r").append(r).append(" at 2*1:a=9;");
        PlanningHouse x = Due.of(text + "rule z at 2*1000:a>=2;");
        Due.is("the first rule of many", x.because(0, 0, 1), 1);
        Due.is("by none: it is the BEST one", x.because(0, 0, 2), PlanningHouse.NONE);
        Due.is("by none: an aim alone", x.because(0, 0, 3), PlanningHouse.NONE);
        Due.is("no such plan", x.because(0, 0, 4), PlanningHouse.NONE);
        for (int value : new int[] {-1, 5, LEAST, MOST}) Due.is("no value", x.because(0, 0, value), PlanningHouse.NONE);
        PlanningHouse y = Due.of(text.toString().replace("a=9", "a<=9") + "rule z at 2*1000:a>=2;");
        Due.is("the last rule", y.because(0, 0, 1), 23);
        Due.is("the first rule of all", Due.of("var a in 0..1;rule r at 1*1:a=0;rule s at 1*1:a=0;").because(0, 0, 1), 0);
        y.put(0, 0, 1);
        y.pin(0, 0, true);
        Due.is("the only allowed one", y.because(0, 0, 1), PlanningHouse.NONE);
        Due.is("one that is not allowed", y.because(0, 0, 2), PlanningHouse.NONE);
    }
}
