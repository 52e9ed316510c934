/** The edges of futures and of the board: promises 47 to 52, 57 and 58. */
public final class EdgeFutureTest {
    private static final int LEAST = Integer.MIN_VALUE;
    private static final int MOST = Integer.MAX_VALUE;

    public static void main(String[] args) {
        future();
        told();
        unfold();
        robust();
        expected();
        regret();
        board();
        asTheyAreNow();
        Due.end();
    }

    private static PlanningHouse full() {
        PlanningHouse x = Edge.house();
        for (int u = 2; u < 6; u++) Due.is("future", x.future(0, u), u);
        return x;
    }

    private static void future() {
        Edge.of(47, "A FUTURE more, with odds (1 .. 100): its number. NONE: other odds; FULL: there are 6.");
        for (int odds : new int[] {1, 2, 99, 100}) {
            PlanningHouse x = Due.of("var a in 0..1;aim m at 1:1;");
            Due.is("future", x.future(0, odds), 0);
            Due.is("its odds", x.expected(0, 1), odds);
        }
        for (int odds : new int[] {0, -1, 101, 102, LEAST, MOST}) {
            Edge.refused("future with odds " + odds, x -> x.future(0, odds), PlanningHouse.NONE);
            Edge.refused("a seventh with odds " + odds, EdgeFutureTest::full, x -> x.future(0, odds), PlanningHouse.NONE);
        }
        PlanningHouse x = Due.of("var a in 0..1;aim m at 1:1;");
        for (int u = 0; u < 6; u++) {
            Due.is("future", x.future(0, 100), u);
            Due.is("how many", x.count(0, 7), u + 1);
        }
        Due.is("all odds", x.expected(0, 1), 600);
        Edge.refused("a seventh", EdgeFutureTest::full, y -> y.future(0, 1), PlanningHouse.FULL);
    }

    private static void told() {
        Edge.of(48, "In future u fact f has a value (-9999 .. 9999): true. False when there is none such.");
        for (int value : new int[] {-9999, 9999, 0}) {
            PlanningHouse x = Due.of("fact f=1;fact g=2;var a in 0..1;aim m at 1:f;aim n at 2:g;");
            x.future(0, 1);
            x.future(0, 10);
            Due.is("told", x.told(0, 1, 1, value), true);
            Due.is("not of f", x.expected(0, 1), 11);
            Due.is("of g in one future alone", x.expected(0, 2), 2 + 10L * value);
            Due.is("the fact is as it was", x.fact(0, 1), 2);
            Due.is("told again", x.told(0, 1, 1, 3), true);
            Due.is("the later one", x.expected(0, 2), 2 + 30);
        }
        for (int value : new int[] {-10000, 10000, LEAST, MOST}) Edge.refused("told " + value, x -> Edge.bit(x.told(0, 1, 0, value)), 0);
        StringBuilder text = new StringBuilder();
        for (int f = 0; f < 16; f++) text.append("fact f").append(f).append("=1;");
        PlanningHouse x = Due.of(text + "var a in 0..1;aim m at 1:f15;aim n at 2:f0;");
        for (int u = 0; u < 6; u++) x.future(0, 1);
        Due.is("told of the last", x.told(0, 5, 15, 7), true);
        Due.is("told of the first", x.told(0, 0, 0, -7), true);
        Due.is("the last", x.expected(0, 1), 5 + 7);
        Due.is("the first", x.expected(0, 2), 5 - 7);
        Due.is("a future that there is not", x.told(0, 6, 0, 7), false);
        Due.is("a fact that there is not", x.told(0, 0, 16, 7), false);
        Due.is("nothing changed", x.expected(0, 2), 5 - 7);
    }

    private static void unfold() {
        Edge.of(49, "There are no futures then: how many there were; NONE without the problem.");
        Due.is("without the problem", new PlanningHouse().unfold(0), PlanningHouse.NONE);
        PlanningHouse x = Due.of("fact f=1;var a in 0..1;aim m at 1:f;");
        Due.is("without futures", x.unfold(0), 0);
        for (int n = 1; n <= 6; n++) {
            for (int u = 0; u < n; u++) {
                Due.is("future", x.future(0, 1), u);
                x.told(0, u, 0, 50);
            }
            Due.is("unfold", x.unfold(0), n);
            Due.is("there are none", x.count(0, 7), 0);
            Due.is("unfold again", x.unfold(0), 0);
        }
        x.future(0, 1);
        Due.is("nothing is told in new ones", x.expected(0, 1), 1);
    }

    private static void robust() {
        Edge.of(50, "of several the first, is at hand then: 1; 0, and nothing changes, when there is none, or no future.");
        Edge.refused("robust without futures", EdgeFutureTest::folded, x -> x.robust(0), 0);
        Edge.refused("robust with none", EdgeFutureTest::dark, x -> x.robust(0), 0);
        PlanningHouse x = dark();
        x.told(0, 1, 0, 3);
        Due.is("with one that is feasible in both", x.robust(0), 1);
        Due.planIs(x, 0, "3");
        // one hard rule is broken by 1 in one future of six: none
        PlanningHouse y = Due.of("fact f=0;var a in 0..3;rule h at 0*1:a>=f;rule i at 0*1:a<=3-f;");
        for (int u = 0; u < 6; u++) y.future(0, 1);
        y.put(0, 0, 3);
        Due.is("all are feasible: the first", y.robust(0), 1);
        Due.planIs(y, 0, "0");
        y.told(0, 5, 0, 1);
        Due.is("the first of two", y.robust(0), 1);
        Due.planIs(y, 0, "1");
        y.told(0, 5, 0, 2);
        Due.is("none", y.robust(0), 0);
        Due.planIs(y, 0, "1");
        Edge.of(50, "whose sums, over all futures, of odds times the score are least (at level 0, of the same at 1, at 2)");
        PlanningHouse z = Due.of("fact f=0;var a in 0..4;rule s at 1*1:a=f;aim n at 2:pick(a:0,0,5,4,4);");
        z.future(0, 1);
        z.future(0, 1);
        z.told(0, 0, 0, 2);
        z.told(0, 1, 0, 4);
        // at level 1 from 2 to 4 all are 2; at level 2 3 and 4 are 8
        Due.is("robust", z.robust(0), 1);
        Due.planIs(z, 0, "3");
        z.unfold(0);
        z.future(0, 100);
        z.future(0, 99);
        z.told(0, 0, 0, 1);
        z.told(0, 1, 0, 2);
        Due.is("by odds", z.robust(0), 1);
        Due.planIs(z, 0, "1");
        z.put(0, 0, 4);
        z.pin(0, 0, true);
        Due.is("of the allowed ones", z.robust(0), 1);
        Due.planIs(z, 0, "4");
    }

    /** No futures, but all else. */
    private static PlanningHouse folded() {
        PlanningHouse x = Edge.house();
        x.unfold(0);
        return x;
    }

    /** Two futures, in the second of which nothing is feasible. */
    private static PlanningHouse dark() {
        PlanningHouse x = Due.of("fact f=0;var a in 0..3;rule h at 0*1:a>=f;aim m at 1:a;");
        x.future(0, 3);
        x.future(0, 5);
        x.told(0, 1, 0, 4);
        x.put(0, 0, 2);
        x.has(0, 0, 1, false);
        Due.type(x, "tape");
        return x;
    }

    private static void expected() {
        Edge.of(51, "For the plan at hand the sum, over all futures, of odds times its score at a level, and the board shows that by the sum of odds;"
            + " NO, and the board stays, without futures or such a level.");
        for (int level = 0; level < 3; level++) {
            int at = level;
            Edge.refused("expected without futures", EdgeFutureTest::folded, x -> x.expected(0, at), PlanningHouse.NO);
        }
        for (int level : new int[] {-1, 3, LEAST, MOST}) Edge.refused("expected at " + level, x -> x.expected(0, level), PlanningHouse.NO);
        PlanningHouse x = dark();
        Due.is("expected", x.expected(0, 0), 5 * 2);
        Due.board(x, 5, 4);
        Due.is("expected", x.expected(0, 1), 8 * 2);
        Due.board(x, 2, 1);
        Due.is("expected", x.expected(0, 2), 0);
        Due.board(x, 0, 1);
    }

    private static void regret() {
        Edge.of(52, "NO when in some future none is feasible, or there is no future, or no such level.");
        for (int level = 0; level < 3; level++) {
            int at = level;
            Edge.refused("regret without futures", EdgeFutureTest::folded, x -> x.regret(0, at), PlanningHouse.NO);
            Edge.refused("regret with none feasible", EdgeFutureTest::dark, x -> x.regret(0, at), PlanningHouse.NO);
        }
        PlanningHouse x = dark();
        x.told(0, 1, 0, 3);
        Due.is("the last one is feasible", x.regret(0, 1), 2);
        Due.is("level 0", x.regret(0, 0), 1);
        Due.is("level 2", x.regret(0, 2), 0);
        x.told(0, 0, 0, 4);
        Due.is("none in the first", x.regret(0, 1), PlanningHouse.NO);
        Edge.of(52, "at most, over all futures (it may be below 0)");
        PlanningHouse y = Due.of("fact f=0;var a in 0..9;rule h at 0*1:a>=f;aim m at 1:a;");
        for (int u = 0; u < 6; u++) {
            y.future(0, 1);
            y.told(0, u, 0, 9 - u);
        }
        y.put(0, 0, 1);
        Due.is("below 0 in all", y.regret(0, 1), -3);
        y.put(0, 0, 4);
        Due.is("0 in one", y.regret(0, 1), 0);
        y.put(0, 0, 9);
        Due.is("the most of all", y.regret(0, 1), 5);
        y.put(0, 0, 8);
        y.pin(0, 0, true);
        Due.is("the only allowed one is not feasible in one", y.regret(0, 1), PlanningHouse.NO);
        y.put(0, 0, 9);
        Due.is("it is in all", y.regret(0, 1), 0);
    }

    private static void board() {
        Edge.of(57, "THE BOARD: what stands above the line of the fraction shown last, in least terms, with the sign.");
        Edge.of(58, "What stands below it, 1 or more.");
        Due.board(new PlanningHouse(), 0, 1);
        int[][] odds = {{1}, {2}, {3}, {100, 100, 100, 100, 100, 100}, {4, 2}, {7}};
        int[][] facts = {{0}, {1}, {-1}, {1, 1, 1, 1, 1, 2}, {-3, 0}, {9999}};
        long[][] want = {{0, 1}, {1, 1}, {-1, 1}, {7, 6}, {-2, 1}, {9999, 1}};
        for (int i = 0; i < odds.length; i++) {
            PlanningHouse x = Due.of("fact f=0;var a in 0..1;aim m at 2:f;");
            for (int u = 0; u < odds[i].length; u++) {
                x.future(0, odds[i][u]);
                x.told(0, u, 0, facts[i][u]);
            }
            x.expected(0, 2);
            Due.board(x, want[i][0], want[i][1]);
        }
        PlanningHouse x = Due.of("fact f=0;var a in 0..1;aim m at 2:f;");
        x.future(0, 97);
        x.future(0, 3);
        for (int value = -101; value <= 101; value++) {
            x.told(0, 1, 0, value);
            x.expected(0, 2);
            int part = 3 * value;
            int by = 100;
            for (int n = 100; n > 1; n--) {
                if (part % n == 0 && by % n == 0) {
                    part /= n;
                    by /= n;
                }
            }
            if (value % 40 == 0 || value > 95) Due.board(x, part, by);
        }
    }

    private static void asTheyAreNow() {
        Edge.of(Edge.TERMS, "A FUTURE has ODDS, and may tell other values of facts (those that it doesn't tell are as they are now);"
            + " all questions but those that name futures go by the facts as they are.");
        PlanningHouse x = Due.of("fact f=0;fact g=1;var a in 0..3;rule h at 0*1:a>=f;aim m at 1:g;");
        x.future(0, 1);
        x.told(0, 0, 0, 9);
        Due.is("feasibles", x.feasibles(0), 4);
        Due.is("reach", x.reach(0), 4);
        Due.is("clash", x.clash(0), 0);
        Due.is("score", x.score(0, 0), 0);
        Due.is("robust", x.robust(0), 0);
        x.change(0, 1, 5);
        Due.is("not told, so as it is now", x.expected(0, 1), 5);
        x.told(0, 0, 1, 6);
        x.change(0, 1, 7);
        Due.is("told", x.expected(0, 1), 6);
        Due.is("as it is now", x.score(0, 1), 7);
    }
}
