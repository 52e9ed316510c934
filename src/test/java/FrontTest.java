/** Promises 37 to 40: fronts of two levels, and plans near an old one. */
public final class FrontTest {
    public static void main(String[] args) {
        front();
        onePair();
        longFront();
        near();
        nearBest();
        none();
        Due.end();
    }

    private static void pair(PlanningHouse x, int k, long plans, long one, long two) {
        Due.is("plans of pair " + k, x.frontAt(0, k, 0), plans);
        Due.is("level 1 of pair " + k, x.frontAt(0, k, 1), one);
        Due.is("level 2 of pair " + k, x.frontAt(0, k, 2), two);
    }

    /** Pairs by the values of a: 3 / 0, 1 / 2, 1 / 2 again, 2 / 2, 0 / 5, and 0 / 0, which is not feasible. */
    private static void front() {
        PlanningHouse x = Due.of("var a in 0..5; var b in 0..1; rule h at 0*1: a # 5;"
            + "aim m at 1: pick(a : 3, 1, 1, 2, 0, 0); aim n at 2: pick(a : 0, 2, 2, 2, 5, 0) + b * [a # 1];");
        x.put(0, 0, 3);
        Due.is("front", x.front(0), 3);
        pair(x, 0, 1, 0, 5);
        pair(x, 1, 3, 1, 2);
        pair(x, 2, 1, 3, 0);
        Due.is("pair 3", x.frontAt(0, 3, 0), PlanningHouse.NO);
        Due.is("pair -1", x.frontAt(0, -1, 0), PlanningHouse.NO);
        Due.is("what 3", x.frontAt(0, 0, 3), PlanningHouse.NO);
        Due.is("what -1", x.frontAt(0, 0, -1), PlanningHouse.NO);
        Due.is("frontPlan 3", x.frontPlan(0, 3), false);
        Due.is("frontPlan -1", x.frontPlan(0, -1), false);
        Due.planIs(x, 0, "3 0");
        Due.is("frontPlan 1", x.frontPlan(0, 1), true);
        Due.planIs(x, 0, "1 0");
        Due.is("frontPlan 0", x.frontPlan(0, 0), true);
        Due.planIs(x, 0, "4 0");
        x.put(0, 0, 3);
        x.pin(0, 0, true);
        Due.is("front with a pin", x.front(0), 1);
        pair(x, 0, 1, 2, 2);
    }

    private static void onePair() {
        PlanningHouse x = Due.of("var a in 0..3; var b in 0..3;");
        Due.is("front", x.front(0), 1);
        pair(x, 0, 16, 0, 0);
        x.put(0, 0, 2);
        Due.is("frontPlan", x.frontPlan(0, 0), true);
        Due.planIs(x, 0, "0 0");
    }

    /** All plans of all ranges, in an order that must be turned round. */
    private static void longFront() {
        PlanningHouse x = Due.of("var a in 0..19; var b in 0..19; var c in 0..19; aim m at 1: 0 - 400 * a - 20 * b - c; aim n at 2: 400 * a + 20 * b + c;");
        Due.is("front", x.front(0), 8000);
        pair(x, 0, 1, -7999, 7999);
        pair(x, 7999, 1, 0, 0);
        Due.is("frontPlan", x.frontPlan(0, 7998), true);
        Due.planIs(x, 0, "0 0 1");
    }

    private static void near() {
        PlanningHouse x = Due.of("var a in 0..3; var b in 0..3; var c in 0..3; rule h at 0*1: a + b + c = 5; aim m at 1: a;");
        x.weigh(0, 0, 5);
        x.weigh(0, 1, 3);
        x.weigh(0, 2, 4);
        // one change can't do; b and c together cost 7
        Due.is("near", x.near(0, false), 7);
        Due.planIs(x, 0, "0 2 3");
        Due.is("near a feasible one", x.near(0, false), 0);
        Due.planIs(x, 0, "0 2 3");
        x.put(0, 2, 2);
        Due.is("near by b", x.near(0, false), 3);
        Due.planIs(x, 0, "0 3 2");
        x.put(0, 0, 3);
        x.pin(0, 0, true);
        Due.is("near with a pin, by b", x.near(0, false), 3);
        Due.planIs(x, 0, "3 0 2");
        x.pin(0, 0, false);
        x.weigh(0, 0, 0);
        x.weigh(0, 1, 0);
        x.weigh(0, 2, 0);
        Due.is("of several the first", x.near(0, false), 0);
        Due.planIs(x, 0, "0 2 3");
    }

    private static void nearBest() {
        PlanningHouse x = Due.of("var a in 0..3; var b in 0..3; rule h at 0*1: a + b = 3; rule s at 1*1: a >= 2;");
        Due.is("near", x.near(0, false), 1);
        Due.planIs(x, 0, "0 3");
        Due.is("near, best", x.near(0, true), 2);
        Due.planIs(x, 0, "2 1");
        x.put(0, 1, 0);
        x.weigh(0, 1, 1000);
        Due.is("near, best, by a", x.near(0, true), 1);
        Due.planIs(x, 0, "3 0");
    }

    private static void none() {
        PlanningHouse x = Due.of("var a in 0..3; rule h at 0*1: a > 3;");
        x.put(0, 0, 2);
        Due.is("front", x.front(0), 0);
        Due.is("frontAt", x.frontAt(0, 0, 0), PlanningHouse.NO);
        Due.is("frontPlan", x.frontPlan(0, 0), false);
        Due.is("near", x.near(0, false), PlanningHouse.NONE);
        Due.is("near, best", x.near(0, true), PlanningHouse.NONE);
        Due.planIs(x, 0, "2");
        Due.is("front of none", x.front(1), PlanningHouse.NONE);
        Due.is("frontAt of none", x.frontAt(1, 0, 0), PlanningHouse.NO);
        Due.is("frontPlan of none", x.frontPlan(-1, 0), false);
        Due.is("near of none", x.near(4, true), PlanningHouse.NONE);
    }
}
