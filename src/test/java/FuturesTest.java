/** Promises 47 to 52, and 57 and 58 with them: futures with odds, and the board. */
public final class FuturesTest {
    public static void main(String[] args) {
        making();
        robust();
        expected();
        regret();
        factsThatChange();
        wrong();
        Due.end();
    }

    private static void making() {
        PlanningHouse x = Due.of("fact f = 1; var a in 0..1;");
        Due.is("odds 0", x.future(0, 0), PlanningHouse.NONE);
        Due.is("odds 101", x.future(0, 101), PlanningHouse.NONE);
        Due.is("odds -1", x.future(0, -1), PlanningHouse.NONE);
        for (int u = 0; u < 6; u++) Due.is("future", x.future(0, u == 0 ? 1 : 100), u);
        Due.is("a seventh", x.future(0, 1), PlanningHouse.FULL);
        Due.is("a seventh with other odds", x.future(0, 0), PlanningHouse.NONE);
        Due.is("told", x.told(0, 5, 0, 9999), true);
        Due.is("told", x.told(0, 0, 0, -9999), true);
        Due.is("told too much", x.told(0, 0, 0, 10000), false);
        Due.is("told too little", x.told(0, 0, 0, -10000), false);
        Due.is("told of no fact", x.told(0, 0, 1, 1), false);
        Due.is("told of no fact", x.told(0, 0, -1, 1), false);
        Due.is("told of no future", x.told(0, 6, 0, 1), false);
        Due.is("told of no future", x.told(0, -1, 0, 1), false);
        Due.is("told of no problem", x.told(1, 0, 0, 1), false);
        Due.is("count", x.count(0, 7), 6);
        Due.is("unfold", x.unfold(0), 6);
        Due.is("unfold again", x.unfold(0), 0);
        Due.is("told of none", x.told(0, 0, 0, 1), false);
        Due.is("from 0 on again", x.future(0, 7), 0);
        Due.is("the fact stays", x.fact(0, 0), 1);
    }

    /** In the futures at least 1, 2 and 4; each is punished by its distance. */
    private static PlanningHouse three() {
        PlanningHouse x = Due.of("fact f = 0; fact g = 1; var a in 0..5; rule h at 0*1: a >= f; aim m at 1: g * a; rule s at 2*2: a = f;");
        x.future(0, 1);
        x.future(0, 2);
        x.future(0, 3);
        x.told(0, 0, 0, 1);
        x.told(0, 1, 0, 2);
        x.told(0, 2, 0, 4);
        return x;
    }

    private static void robust() {
        PlanningHouse x = three();
        Due.is("robust", x.robust(0), 1);
        Due.planIs(x, 0, "4");
        x.told(0, 0, 1, -9);
        // 1 * -9 a + 5 a: the more the better
        Due.is("robust", x.robust(0), 1);
        Due.planIs(x, 0, "5");
        x.told(0, 2, 0, 6);
        x.put(0, 0, 3);
        Due.is("robust", x.robust(0), 0);
        Due.planIs(x, 0, "3");
        x.told(0, 2, 0, 2);
        x.pin(0, 0, true);
        Due.is("robust with a pin", x.robust(0), 1);
        Due.planIs(x, 0, "3");
        x.put(0, 0, 1);
        Due.is("robust with a bad pin", x.robust(0), 0);
        x.unfold(0);
        Due.is("without futures", x.robust(0), 0);
        Due.planIs(x, 0, "1");
        PlanningHouse y = Due.of("fact f = 0; var a in 0..5; rule s at 1*1: a = f;");
        y.future(0, 1);
        y.future(0, 1);
        y.told(0, 0, 0, 2);
        y.told(0, 1, 0, 4);
        Due.is("of several the first", y.robust(0), 1);
        Due.planIs(y, 0, "2");
    }

    private static void expected() {
        PlanningHouse x = three();
        Due.board(x, 0, 1);
        x.put(0, 0, 2);
        Due.is("level 0", x.expected(0, 0), 3 * 2);
        Due.board(x, 1, 1);
        Due.is("level 1", x.expected(0, 1), 12);
        Due.board(x, 2, 1);
        Due.is("level 2", x.expected(0, 2), 2 + 0 + 3 * 4);
        Due.board(x, 7, 3);
        Due.is("level 3", x.expected(0, 3), PlanningHouse.NO);
        Due.is("level -1", x.expected(0, -1), PlanningHouse.NO);
        Due.board(x, 7, 3);
        x.told(0, 1, 1, -5);
        Due.is("below 0", x.expected(0, 1), 2 - 20 + 6);
        Due.board(x, -2, 1);
        x.told(0, 1, 1, -4);
        Due.is("below 0", x.expected(0, 1), 2 - 16 + 6);
        Due.board(x, -4, 3);
        x.put(0, 0, 0);
        Due.is("nothing", x.expected(0, 1), 0);
        Due.board(x, 0, 1);
        x.put(0, 0, 1);
        x.expected(0, 1);
        x.unfold(0);
        Due.board(x, -2, 3);
        Due.is("without futures", x.expected(0, 1), PlanningHouse.NO);
        Due.board(x, -2, 3);
    }

    private static void regret() {
        PlanningHouse x = three();
        x.put(0, 0, 3);
        // least at level 1 in the futures: 1, 2, 4
        Due.is("level 1", x.regret(0, 1), 2);
        Due.is("level 0", x.regret(0, 0), 1);
        // least at level 2: 0, 0, 0; the plan's: 4, 2, 2
        Due.is("level 2", x.regret(0, 2), 4);
        Due.is("level 3", x.regret(0, 3), PlanningHouse.NO);
        Due.is("level -1", x.regret(0, -1), PlanningHouse.NO);
        x.put(0, 0, 0);
        Due.is("below 0", x.regret(0, 1), -1);
        x.pin(0, 0, true);
        Due.is("none is feasible", x.regret(0, 1), PlanningHouse.NO);
        x.pin(0, 0, false);
        x.told(0, 1, 0, 6);
        Due.is("none is feasible in one", x.regret(0, 1), PlanningHouse.NO);
        x.unfold(0);
        Due.is("without futures", x.regret(0, 1), PlanningHouse.NO);
    }

    /** What a future does not tell is as it is now; other questions do not go by futures. */
    private static void factsThatChange() {
        PlanningHouse x = three();
        x.put(0, 0, 4);
        Due.is("before", x.expected(0, 1), 24);
        x.change(0, 1, 2);
        Due.is("behind", x.expected(0, 1), 48);
        x.change(0, 0, 9);
        Due.is("told ones stay", x.expected(0, 0), 0);
        Due.is("feasibles go by facts", x.feasibles(0), 0);
        x.change(0, 0, 0);
        Due.is("feasibles go by facts", x.feasibles(0), 6);
        x.unfold(0);
        x.future(0, 1);
        Due.is("told ones are gone", x.expected(0, 0), 0);
        x.change(0, 0, 5);
        Due.is("as it is now", x.expected(0, 0), 1);
    }

    private static void wrong() {
        PlanningHouse x = new PlanningHouse();
        Due.is("future", x.future(0, 1), PlanningHouse.NONE);
        Due.is("unfold", x.unfold(0), PlanningHouse.NONE);
        Due.is("robust", x.robust(0), PlanningHouse.NONE);
        Due.is("expected", x.expected(0, 0), PlanningHouse.NO);
        Due.is("regret", x.regret(0, 0), PlanningHouse.NO);
        Due.board(x, 0, 1);
    }
}
