/** Promises 25 to 27: values that hard rules leave. */
public final class LeaveTest {
    public static void main(String[] args) {
        chain();
        alone();
        pinned();
        none();
        hopeless();
        wrong();
        Due.end();
    }

    /** One value goes after the other. */
    private static void chain() {
        PlanningHouse x = Due.of("var a in 0..4; var b in 0..4; var c in 0..4; rule r at 0*1: a < b; rule s at 0*1: b < c;");
        Due.is("reach", x.reach(0), 9);
        Due.left(x, 0, "0 1 2");
        Due.left(x, 1, "1 2 3");
        Due.left(x, 2, "2 3 4");
        Due.planIs(x, 0, "0 0 0");
        Due.is("behind the range", x.isLeft(0, 0, 5), false);
        Due.is("before the range", x.isLeft(0, 0, -1), false);
        Due.is("no var", x.isLeft(0, 3, 0), false);
        Due.is("no var", x.isLeft(0, -1, 0), false);
    }

    /** Each rule is looked at for itself: two that never hold together leave all. */
    private static void alone() {
        PlanningHouse x = Due.of("var a in 0..1; var b in 0..1; rule r at 0*1: a = b; rule s at 0*1: a # b; rule t at 1*1: a = 5;");
        Due.is("reach", x.reach(0), 4);
        Due.is("feasibles", x.feasibles(0), 0);
        Due.is("hopeless", x.hopeless(0), PlanningHouse.NONE);
        PlanningHouse y = Due.of("fact f = 1; var a in {7, 5, 3}; rule r at 0*1: a >= 5 | f = 1;");
        Due.is("reach", y.reach(0), 3);
        y.change(0, 0, 2);
        Due.is("reach by other facts", y.reach(0), 2);
        Due.left(y, 0, "7 5");
        PlanningHouse z = Due.of("var a in 0..2; rule r at 1*1: a = 9; aim m at 2: a;");
        Due.is("without hard rules", z.reach(0), 3);
    }

    private static void pinned() {
        PlanningHouse x = Due.of("var a in 0..4; var b in 0..4; rule r at 0*1: a + 2 <= b;");
        x.put(0, 0, 1);
        x.pin(0, 0, true);
        Due.is("reach", x.reach(0), 3);
        Due.left(x, 0, "1");
        Due.left(x, 1, "3 4");
        x.put(0, 0, 4);
        Due.is("reach", x.reach(0), 0);
        Due.left(x, 0, "");
        Due.left(x, 1, "");
        Due.is("hopeless", x.hopeless(0), 0);
        x.pin(0, 0, false);
        Due.is("reach", x.reach(0), 6);
    }

    private static void none() {
        PlanningHouse x = Due.of("var a in 0..1; var b in 0..9; rule r at 0*1: a > 1;");
        Due.is("reach", x.reach(0), 0);
        Due.left(x, 1, "");
    }

    private static void hopeless() {
        PlanningHouse x = Due.of("fact f = 0; var a in 0..3; rule s at 1*1: a > 9; rule r at 0*1: a > f;"
            + "rule t at 0*1: a > f + 3; rule u at 0*1: a > f + 4;");
        Due.is("hopeless", x.hopeless(0), 2);
        x.change(0, 0, -1);
        Due.is("hopeless", x.hopeless(0), 3);
        x.change(0, 0, -2);
        Due.is("hopeless", x.hopeless(0), PlanningHouse.NONE);
        x.pin(0, 0, true);
        Due.is("hopeless with a pin", x.hopeless(0), 2);
        x.change(0, 0, 3);
        Due.is("hopeless from the first on", x.hopeless(0), 1);
    }

    private static void wrong() {
        PlanningHouse x = new PlanningHouse();
        Due.is("reach", x.reach(0), PlanningHouse.NONE);
        Due.is("isLeft", x.isLeft(0, 0, 0), false);
        Due.is("hopeless", x.hopeless(0), PlanningHouse.NONE);
    }
}
