/** Promises 15 to 24: facts, plans at hand, pins and costs, and what rules and aims say. */
public final class PlansTest {
    public static void main(String[] args) {
        facts();
        plans();
        costs();
        sums();
        comparisons();
        joined();
        lists();
        times();
        boxes();
        scores();
        wrong();
        Due.end();
    }

    private static void facts() {
        PlanningHouse x = Due.of("fact f = -12; fact g = 0009; var a in 0..1; aim m at 1: f * 2 + g;");
        Due.is("fact 0", x.fact(0, 0), -12);
        Due.is("fact 1", x.fact(0, 1), 9);
        Due.is("fact 2", x.fact(0, 2), PlanningHouse.NO);
        Due.is("fact -1", x.fact(0, -1), PlanningHouse.NO);
        Due.is("aim", x.aim(0, 0), -15);
        Due.is("change", x.change(0, 0, 9999), true);
        Due.is("aim", x.aim(0, 0), 20007);
        Due.is("change", x.change(0, 0, -9999), true);
        Due.is("fact 0", x.fact(0, 0), -9999);
        Due.is("change too far", x.change(0, 0, 10000), false);
        Due.is("change too far", x.change(0, 0, -10000), false);
        Due.is("change of none", x.change(0, 2, 1), false);
        Due.is("change of none", x.change(0, -1, 1), false);
        Due.is("change of no problem", x.change(1, 0, 1), false);
        Due.is("fact 0 stays", x.fact(0, 0), -9999);
        Due.is("best before", x.best(0, 1), -19989);
        x.change(0, 1, 0);
        Due.is("best behind", x.best(0, 1), -19998);
    }

    private static void plans() {
        PlanningHouse x = Due.of("var a in {3, -2, 7}; var b in -1..1;");
        Due.planIs(x, 0, "3 -1");
        Due.is("put 7", x.put(0, 0, 7), true);
        Due.is("put 0", x.put(0, 1, 0), true);
        Due.planIs(x, 0, "7 0");
        Due.is("put none of it", x.put(0, 0, 0), false);
        Due.is("put of no var", x.put(0, 2, 0), false);
        Due.is("put of no var", x.put(0, -1, 3), false);
        Due.is("put of no problem", x.put(1, 0, 3), false);
        Due.is("pin", x.pin(0, 0, true), false);
        Due.is("pin again", x.pin(0, 0, true), true);
        Due.is("put a pinned one", x.put(0, 0, -2), true);
        Due.planIs(x, 0, "-2 0");
        Due.is("feasibles", x.feasibles(0), 3);
        Due.is("unpin", x.pin(0, 0, false), true);
        Due.is("unpin again", x.pin(0, 0, false), false);
        Due.is("pin of no var", x.pin(0, 2, true), false);
        Due.is("pin of no var", x.pin(0, -1, true), false);
        Due.is("value of no var", x.value(0, 2), PlanningHouse.NO);
        Due.is("value of no var", x.value(0, -1), PlanningHouse.NO);
    }

    private static void costs() {
        PlanningHouse x = Due.of("var a in 0..1; var b in 0..1;");
        Due.is("weigh", x.weigh(0, 1, 1000), 1);
        Due.is("weigh", x.weigh(0, 1, 0), 1000);
        Due.is("weigh too much", x.weigh(0, 1, 1001), PlanningHouse.NONE);
        Due.is("weigh too little", x.weigh(0, 1, -1), PlanningHouse.NONE);
        Due.is("weigh", x.weigh(0, 1, 7), 0);
        Due.is("weigh of no var", x.weigh(0, 2, 7), PlanningHouse.NONE);
        Due.is("weigh of no var", x.weigh(0, -1, 7), PlanningHouse.NONE);
        Due.is("the other one", x.weigh(0, 0, 5), 1);
    }

    /** What a SUM is when a is 3, b is -2 and f is 9999. */
    private static void sum(String sum, long want) {
        PlanningHouse x = Due.of("fact f = 9999; var a in {3, 0}; var b in {-2, 0}; aim m at 2: " + sum + ";");
        Due.is("aim " + sum, x.aim(0, 0), want);
        Due.is("score of " + sum, x.score(0, 2), want);
    }

    private static void sums() {
        sum("a", 3);
        sum("b", -2);
        sum("a - b - 1", 4);
        sum("a + b * a", -3);
        sum("(a + b) * a", 3);
        sum("- a - - b", -5);
        sum("--a", 3);
        sum("abs(b) + abs(a)", 5);
        sum("min(a, b, 1) + max(a, b, 1) * 10", 28);
        sum("min(a) - max(b)", 5);
        sum("pick(a : 5, 6, 7, -8)", -8);
        sum("pick(a : 5, 6, 7)", 0);
        sum("pick(b : 5, 6, 7)", 0);
        sum("pick(a - a : 5)", 5);
        sum("[a = 3] + [a = 4] * 10", 1);
        sum("f * f", 1000000);
        sum("f * f * b", -1000000);
        sum("f * f + f - f", 990001);
        sum("- (f * f) - 1 + 2", -999998);
        sum("f * f * 0", 0);
        sum("-(f*f) * -1", 1000000);
        sum("abs(0 - f * f - 1)", 1000000);
    }

    /** By what a TEST is broken when a is 3, b is -2 and f is 9999. */
    private static void test(String test, long want) {
        PlanningHouse x = Due.of("fact f = 9999; var a in {3, 0}; var b in {-2, 0}; rule r at 1*2: " + test + ";");
        Due.is("broken by " + test, x.broken(0, 0), want);
        Due.is("score of " + test, x.score(0, 1), 2 * want);
    }

    private static void comparisons() {
        test("a = b", 5);
        test("b = a", 5);
        test("a = 3", 0);
        test("a # 3", 1);
        test("a # b", 0);
        test("a <= b", 5);
        test("a <= 3", 0);
        test("a < 3", 1);
        test("a < b", 6);
        test("b < a", 0);
        test("a > 3", 1);
        test("b > a", 6);
        test("a > b", 0);
        test("b >= a", 5);
        test("a >= 3", 0);
        test("f * f = - f * f", 2000000);
        test("f * f < - f * f", 2000001);
    }

    private static void joined() {
        test("a = b & a = 1", 7);
        test("a = 3 & a = 1", 2);
        test("a = b | a = 1", 2);
        test("a = b | a = 3", 0);
        test("a = b | a = 1 & a = b", 5);
        test("~ a = b", 0);
        test("~ a = 3", 1);
        test("~ ~ a = 1", 1);
        test("{a = b | a = 1} & a = b", 7);
        test("a = 3 -> a = b", 5);
        test("a = 1 -> a = b", 0);
        test("a = 3 -> a = 3 -> a = 1", 2);
        test("a = 3 -> a = 1 -> a = b", 0);
        test("a = 1 -> a = 1 -> a = b", 0);
        test("{a = 3 -> a = 1} -> a = b", 0);
        test("f * f = - f * f & a = 3", 1000000);
        test("a = 3 & f * f = - f * f", 1000000);
        test("f * f = 1 & f * f = 1", 1000000);
        test("{f * f = - f * f}", 2000000);
        test("[a = 1 -> a = b] = 1", 0);
    }

    private static void lists() {
        test("all(a, b)", 0);
        test("all(a)", 0);
        test("all(a, a)", 1);
        test("all(a, b, a, b, a)", 3);
        test("row(a, b : (1, 1))", 2);
        test("row(a, b : (1, 1), (3, 1))", 1);
        test("row(a, b : (1, 1), (3, -2), (3, 1))", 0);
        test("lex(a : b)", 1);
        test("lex(b : a)", 0);
        test("lex(a, b : a, a)", 0);
        test("lex(a, a : a, b)", 1);
        test("lex(a, b : a, b)", 0);
        test("auto(a : (0, 3, 1) : 1)", 0);
        test("auto(a : (0, 3, 1) : 2)", 1);
        test("auto(a : (0, 3, 2), (0, 3, 1) : 1)", 1);
        test("auto(a, b : (0, 3, 1), (1, -2, 0) : 0)", 0);
        test("auto(a, b : (0, 3, 1), (0, -2, 0) : 0, 1)", 1);
        test("auto(a : (1, 3, 1) : 1, 0)", 1);
        String vars = "var a in 0..3; var b in 0..3; var c in 0..3; var d in 0..3; rule r at 0*1: ring(a, b, c, d);";
        PlanningHouse x = Due.of(vars);
        int[][] plans = {{0, 1, 2, 3}, {1, 2, 3, 0}, {1, 0, 2, 3}, {1, 0, 3, 2}, {0, 2, 3, 1}, {1, 1, 2, 3}, {3, 0, 1, 2}};
        int[] want = {0, 0, 0, 1, 0, 1, 0};
        for (int i = 0; i < plans.length; i++) {
            for (int v = 0; v < 4; v++) x.put(0, v, plans[i][v]);
            Due.is("ring " + i, x.broken(0, 0), want[i]);
        }
        // of 24 orders of four there are 1 + 6 + 8 + 6 with one round at most; 3 have two rounds
        Due.is("rings", x.feasibles(0), 21);
        test("ring(a)", 1);
        test("ring(b)", 1);
        PlanningHouse y = Due.of("var a in {0, 1}; rule r at 0*1: ring(a); rule s at 1*1: ring(a, a);");
        Due.is("a ring of one", y.broken(0, 0), 0);
        Due.is("a ring of one twice", y.broken(0, 1), 1);
        y.put(0, 0, 1);
        Due.is("no ring of one", y.broken(0, 0), 1);
    }

    private static void times() {
        test("busy(0 : (a, 1, 5))", 5);
        test("busy(5 : (a, 1, 5))", 0);
        test("busy(0 : (a, 0, 5))", 0);
        test("busy(1 : (a, 1, 2), (b, 5, 3))", 2);
        test("busy(1 : (a, 1, 2), (b, 6, 3))", 4);
        test("busy(3 : (a, 9999, 9999), (a, 9999, 9999))", 19995);
        test("busy(0 : (b, 2, 1), (a, 2, 1), (b, 9, 4))", 5);
        test("busy(2 : (a, 0, 9), (b, 9, 4))", 2);
    }

    private static void boxes() {
        test("apart((a, b, 1, 1))", 0);
        test("apart((a, b, 1, 1), (a, b, 1, 1))", 1);
        test("apart((a, b, 1, 1), (a, b, 1, 1), (a, b, 1, 1))", 3);
        test("apart((a, b, 1, 1), (b, b, 5, 1))", 0);
        test("apart((a, b, 1, 1), (b, b, 6, 1))", 1);
        test("apart((a, b, 1, 5), (a, a, 1, 1))", 0);
        test("apart((a, b, 1, 6), (a, a, 1, 1))", 1);
        test("apart((a, b, 0, 1), (a, b, 0, 1))", 0);
        test("apart((a, a, 0, 9), (b, b, 9, 9))", 1);
    }

    private static void scores() {
        PlanningHouse x = Due.of("var a in 0..4; var b in 0..4; rule h at 0*3: a >= 2; rule i at 0*5: b >= 1;"
            + "rule s at 1*7: a = b; rule t at 2*1000: a + b = 3; aim m at 1: a - 3 * b; aim n at 2: -1; aim o at 1: 10;");
        Due.is("level 0", x.score(0, 0), 11);
        Due.is("level 1", x.score(0, 1), 10);
        Due.is("level 2", x.score(0, 2), 2999);
        Due.is("level 3", x.score(0, 3), PlanningHouse.NO);
        Due.is("level -1", x.score(0, -1), PlanningHouse.NO);
        Due.is("feasible", x.feasible(0), false);
        Due.is("broken 0", x.broken(0, 0), 2);
        Due.is("broken 3", x.broken(0, 3), 3);
        Due.is("broken 4", x.broken(0, 4), PlanningHouse.NONE);
        Due.is("broken -1", x.broken(0, -1), PlanningHouse.NONE);
        x.put(0, 0, 4);
        Due.is("feasible with one broken", x.feasible(0), false);
        x.put(0, 1, 2);
        Due.is("feasible", x.feasible(0), true);
        Due.is("level 0", x.score(0, 0), 0);
        Due.is("level 1", x.score(0, 1), 7 * 2 + 4 - 6 + 10);
        Due.is("level 2", x.score(0, 2), 2999);
        Due.is("aim 0", x.aim(0, 0), -2);
        Due.is("aim 2", x.aim(0, 2), 10);
        Due.is("aim 3", x.aim(0, 3), PlanningHouse.NO);
        Due.is("aim -1", x.aim(0, -1), PlanningHouse.NO);
    }

    private static void wrong() {
        PlanningHouse x = new PlanningHouse();
        for (int p = -1; p < 5; p++) {
            Due.is("fact", x.fact(p, 0), PlanningHouse.NO);
            Due.is("value", x.value(p, 0), PlanningHouse.NO);
            Due.is("pin", x.pin(p, 0, true), false);
            Due.is("weigh", x.weigh(p, 0, 1), PlanningHouse.NONE);
            Due.is("broken", x.broken(p, 0), PlanningHouse.NONE);
            Due.is("aim", x.aim(p, 0), PlanningHouse.NO);
            Due.is("score", x.score(p, 0), PlanningHouse.NO);
            Due.is("feasible", x.feasible(p), false);
        }
    }
}
