/** Promises 28 to 36: the best plans, found, counted and compared. */
public final class BestTest {
    /** Feasible are all with a + b >= 3, ten of sixteen; best at level 1 those with a + b = 3. */
    private static final String TEXT = "var a in 0..3; var b in {3, 2, 1, 0}; rule h at 0*4: a + b >= 3;"
        + "aim m at 1: a + b; rule s at 2*10: a >= 1; aim n at 2: abs(a - b);";

    public static void main(String[] args) {
        solve();
        counting();
        having();
        mending();
        levels();
        none();
        wrong();
        Due.end();
    }

    private static void solve() {
        PlanningHouse x = Due.of(TEXT);
        Due.is("solve", x.solve(0), 1);
        // of 0 3, 1 2, 2 1, 3 0 those with |a - b| = 1, and the first of them
        Due.planIs(x, 0, "1 2");
        Due.is("level 0", x.best(0, 0), 0);
        Due.is("level 1", x.best(0, 1), 3);
        Due.is("level 2", x.best(0, 2), 1);
        Due.is("level 3", x.best(0, 3), PlanningHouse.NO);
        Due.is("level -1", x.best(0, -1), PlanningHouse.NO);
        Due.is("bests", x.bests(0), 2);
        Due.is("bestAt 1", x.bestAt(0, 1), true);
        Due.planIs(x, 0, "2 1");
        Due.is("bestAt 2", x.bestAt(0, 2), false);
        Due.is("bestAt -1", x.bestAt(0, -1), false);
        Due.planIs(x, 0, "2 1");
        x.put(0, 0, 3);
        x.pin(0, 0, true);
        Due.is("solve with a pin", x.solve(0), 1);
        Due.planIs(x, 0, "3 0");
        Due.is("best with a pin", x.best(0, 2), 3);
        Due.is("bests with a pin", x.bests(0), 1);
    }

    private static void counting() {
        PlanningHouse x = Due.of(TEXT);
        Due.is("feasibles", x.feasibles(0), 10);
        String[] want = {"0 3", "1 3", "1 2", "2 3", "2 2", "2 1", "3 3", "3 2", "3 1", "3 0"};
        for (int k = 0; k < want.length; k++) {
            Due.is("feasibleAt", x.feasibleAt(0, k), true);
            Due.planIs(x, 0, want[k]);
        }
        Due.is("feasibleAt 10", x.feasibleAt(0, 10), false);
        Due.is("feasibleAt -1", x.feasibleAt(0, -1), false);
        Due.planIs(x, 0, "3 0");
        x.pin(0, 1, true);
        Due.is("feasibles with a pin", x.feasibles(0), 1);
        x.put(0, 1, 2);
        Due.is("feasibles with a pin", x.feasibles(0), 3);
        Due.is("feasibleAt 1", x.feasibleAt(0, 1), true);
        Due.planIs(x, 0, "2 2");
    }

    private static void having() {
        PlanningHouse x = Due.of(TEXT);
        Due.is("has 3", x.has(0, 0, 3, false), 4);
        Due.board(x, 2, 5);
        Due.is("has 1", x.has(0, 0, 1, true), 1);
        Due.board(x, 1, 2);
        Due.is("no such var", x.has(0, 2, 1, true), PlanningHouse.NONE);
        Due.is("no such var", x.has(0, -1, 1, true), PlanningHouse.NONE);
        Due.is("no such problem", x.has(1, 0, 1, true), PlanningHouse.NONE);
        Due.board(x, 1, 2);
        Due.is("has 0", x.has(0, 0, 0, true), 0);
        Due.board(x, 0, 1);
        Due.is("none of the range", x.has(0, 0, 77, false), 0);
        Due.board(x, 0, 1);
        Due.is("choices of a", x.choices(0, 0), 2);
        Due.is("choices of b", x.choices(0, 1), 2);
        Due.is("choices of none", x.choices(0, 2), PlanningHouse.NONE);
        Due.is("choices of none", x.choices(0, -1), PlanningHouse.NONE);
        x.put(0, 0, 3);
        x.pin(0, 0, true);
        Due.is("has all", x.has(0, 0, 3, false), 4);
        Due.board(x, 1, 1);
        Due.is("choices of b", x.choices(0, 1), 1);
        PlanningHouse y = Due.of("var a in 0..5; var b in 0..1; rule r at 1*1: b = 1;");
        Due.is("choices of six", y.choices(0, 0), 6);
        Due.is("choices of one", y.choices(0, 1), 1);
    }

    private static void mending() {
        PlanningHouse x = Due.of(TEXT);
        x.put(0, 0, 2);
        x.put(0, 1, 0);
        Due.is("nothing is free", x.mend(0, 0), 0);
        Due.is("bits of no var", x.mend(0, -4), 0);
        Due.planIs(x, 0, "2 0");
        Due.is("b is free", x.mend(0, 2), 1);
        Due.planIs(x, 0, "2 1");
        x.put(0, 1, 0);
        x.pin(0, 0, true);
        x.pin(0, 1, true);
        Due.is("a is free, though pinned", x.mend(0, 1), 1);
        Due.planIs(x, 0, "3 0");
        Due.is("all are free", x.mend(0, -1), 1);
        Due.planIs(x, 0, "1 2");
        x.put(0, 0, 0);
        x.put(0, 1, 1);
        Due.is("b is free again", x.mend(0, 2), 1);
        Due.planIs(x, 0, "0 3");
        Due.is("already well", x.mend(0, 0), 1);
        Due.planIs(x, 0, "0 3");
        Due.is("no problem", x.mend(1, 0), PlanningHouse.NONE);
    }

    /** Level 0 counts for nothing among feasible ones, level 1 before level 2. */
    private static void levels() {
        PlanningHouse x = Due.of("var a in 0..2; var b in 0..2; aim m at 2: 0 - 100 * a; rule s at 1*1: a + b = 0; aim n at 1: 0 - b * b;");
        Due.is("solve", x.solve(0), 1);
        Due.planIs(x, 0, "0 2");
        Due.is("level 1", x.best(0, 1), -2);
        Due.is("level 2", x.best(0, 2), 0);
    }

    private static void none() {
        PlanningHouse x = Due.of("var a in 0..2; var b in 0..2; rule r at 0*1: a + b > 4; rule s at 0*1: a < b;");
        x.put(0, 0, 1);
        Due.is("solve", x.solve(0), 0);
        Due.is("best", x.best(0, 0), PlanningHouse.NO);
        Due.is("bests", x.bests(0), 0);
        Due.is("bestAt", x.bestAt(0, 0), false);
        Due.is("feasibles", x.feasibles(0), 0);
        Due.is("feasibleAt", x.feasibleAt(0, 0), false);
        Due.is("has", x.has(0, 0, 1, true), 0);
        Due.board(x, 0, 1);
        Due.is("has", x.has(0, 0, 1, false), 0);
        Due.board(x, 0, 1);
        Due.is("choices", x.choices(0, 0), 0);
        Due.is("mend", x.mend(0, 3), 0);
        Due.planIs(x, 0, "1 0");
    }

    private static void wrong() {
        PlanningHouse x = new PlanningHouse();
        Due.is("solve", x.solve(0), PlanningHouse.NONE);
        Due.is("best", x.best(0, 0), PlanningHouse.NO);
        Due.is("bests", x.bests(-1), PlanningHouse.NONE);
        Due.is("bestAt", x.bestAt(0, 0), false);
        Due.is("feasibles", x.feasibles(4), PlanningHouse.NONE);
        Due.is("feasibleAt", x.feasibleAt(0, 0), false);
        Due.is("has", x.has(0, 0, 0, false), PlanningHouse.NONE);
        Due.is("choices", x.choices(0, 0), PlanningHouse.NONE);
        Due.is("mend", x.mend(0, 0), PlanningHouse.NONE);
    }
}
