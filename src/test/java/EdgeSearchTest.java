/** The edges of searches: promises 53 and 54, and the chapter SEARCHES. */
public final class EdgeSearchTest {
    private static final int LEAST = Integer.MIN_VALUE;
    private static final int MOST = Integer.MAX_VALUE;
    private static final String[] TEXTS = {
        "var a in 0..1;aim m at 1:a;",
        "var a in{3,1,2};var b in 0..3;rule h at 0*2:a+b>=4;aim m at 1:a;aim n at 2:-b;",
        "var a in 0..19;var b in 5..5;var c in 10..29;rule h at 0*1:a<=c;rule s at 1*3:abs(a-c)=7;aim n at 2:a;",
        "var a in 0..2;var b in 0..2;var c in 0..2;rule s at 1*1:all(a,b,c);aim n at 2:a+2*b-c;",
        "var a in 0..3;var b in{7,9};var c in 2..4;aim m at 1:1;",
    };

    public static void main(String[] args) {
        taken();
        refused();
        before();
        noneFree();
        noSteps();
        lengths();
        manySteps();
        wraps();
        equalOnes();
        barred();
        slack();
        again();
        Due.end();
    }

    /** The same search in a house and in the second reading of the document. */
    private static void same(String text, int pinned, int how, int length, int seed, int steps) {
        PlanningHouse x = Due.of(text);
        PlainHouse plain = new PlainHouse();
        for (int i = 0; i < text.length(); i++) plain.type(text.charAt(i), 1);
        plain.problem();
        for (int v = 0; v < x.count(0, 1); v++) {
            x.pin(0, v, (pinned >> v & 1) != 0);
            plain.pin(0, v, (pinned >> v & 1) != 0);
        }
        String call = "search(0, " + how + ", " + length + ", " + seed + ", " + steps + ") of " + text;
        Due.is(call, x.search(0, how, length, seed, steps), plain.search(0, how, length, seed, steps));
        for (int what = 0; what < 3; what++) Due.is("searched(" + what + ") of " + call, x.searched(what), plain.searched(what));
        for (int v = 0; v < x.count(0, 1); v++) Due.is("value of var " + v, x.value(0, v), plain.value(0, v));
    }

    private static void taken() {
        Edge.of(53, "(with how 0 it does not matter; 1 .. 20 with 1, 1 .. 100 with 2, 1 .. 10000 with 3)");
        int[][] lengths = {{0, -1, 1, LEAST, MOST}, {1, 2, 19, 20}, {1, 2, 99, 100}, {1, 2, 9999, 10000}};
        for (int how = 0; how < 4; how++) {
            for (int length : lengths[how]) {
                for (int steps : new int[] {0, 1, 2, 1999, 2000}) {
                    Due.is("search", Edge.house().search(0, how, length, 1, steps) >= 0, true);
                }
            }
        }
    }

    private static void refused() {
        Edge.of(53, "NONE, looked at first: other steps, how not 0 .. 3, or a LENGTH that may not be");
        for (int steps : new int[] {-1, 2001, LEAST, MOST}) {
            for (int how = 0; how < 4; how++) {
                int at = how;
                Edge.refused("search of " + steps, x -> x.search(0, at, 1, 7, steps), PlanningHouse.NONE);
            }
        }
        for (int how : new int[] {-1, 4, 5, LEAST, MOST}) Edge.refused("search by " + how, x -> x.search(0, how, 1, 7, 5), PlanningHouse.NONE);
        int[][] wrong = {{}, {0, -1, 21, LEAST, MOST}, {0, -1, 101, LEAST, MOST}, {0, -1, 10001, LEAST, MOST}};
        for (int how = 1; how < 4; how++) {
            int at = how;
            for (int length : wrong[how]) {
                Edge.refused("search with " + length, x -> x.search(0, at, length, 7, 5), PlanningHouse.NONE);
                Edge.refused("search with none free", EdgeSearchTest::pinned, x -> x.search(0, at, length, 7, 5), PlanningHouse.NONE);
            }
        }
        Edge.refused("search with none free", EdgeSearchTest::pinned, x -> x.search(0, 0, 0, 7, 2001), PlanningHouse.NONE);
        Edge.refused("search with none free", EdgeSearchTest::pinned, x -> x.search(0, 4, 1, 7, 1), PlanningHouse.NONE);
    }

    private static PlanningHouse pinned() {
        PlanningHouse x = Edge.house();
        x.pin(0, 0, true);
        return x;
    }

    private static void before() {
        Edge.of(54, "Of the latest search() of any problem that did not answer NONE");
        PlanningHouse x = new PlanningHouse();
        for (int what = -1; what < 4; what++) Due.is("before any", x.searched(what), PlanningHouse.NONE);
        Due.read(x, TEXTS[0]);
        Due.read(x, TEXTS[1]);
        Due.is("one that is refused", x.search(0, 0, 0, 5, 2001), PlanningHouse.NONE);
        for (int what = -1; what < 4; what++) Due.is("before any", x.searched(what), PlanningHouse.NONE);
        x.search(0, 0, 0, 77, 0);
        Due.is("the seed", x.searched(1), 77);
        x.search(1, 0, 0, 78, 0);
        Due.is("the seed of another problem's", x.searched(1), 78);
        x.search(2, 0, 0, 79, 0);
        x.search(1, 1, 0, 80, 0);
        Due.is("refused ones do not count", x.searched(1), 78);
        x.drop(1);
        Due.is("a problem that is gone", x.searched(1), 78);
        for (int what : new int[] {-1, 3, 4, LEAST, MOST}) Due.is("what " + what, x.searched(what), PlanningHouse.NONE);
    }

    private static void none(PlanningHouse x, int seed) {
        String plan = Due.plan(x, 0);
        for (int how = 0; how < 4; how++) {
            Due.is("search with none free", x.search(0, how, 1, seed, 2000), 0);
            Due.is("t", x.searched(0), 1);
            Due.is("the seed", x.searched(1), seed);
            Due.is("the step", x.searched(2), PlanningHouse.NONE);
            Due.planIs(x, 0, plan);
        }
    }

    private static void noneFree() {
        Edge.of(53, "0, and nothing is drawn, when no var is free (searched() tells 1, the seed and NONE then).");
        none(Due.of("var a in 5..5;var b in{3};aim m at 1:a;"), 123);
        none(pinned(), LEAST);
        PlanningHouse x = Due.of("var a in 0..3;var b in 5..5;aim m at 1:-a;");
        x.pin(0, 0, true);
        none(x, -1);
        x.pin(0, 0, false);
        Due.is("a free one", x.search(0, 0, 0, 9, 100) > 0, true);
        Due.is("it is the best now", x.value(0, 0), 3);
        Due.is("it was found", x.searched(2) >= 0, true);
        x.pin(0, 0, true);
        none(x, 6);
        none(pinned(), MOST);
    }

    private static void noSteps() {
        Edge.of(53, "A SEARCH from the plan at hand, of so many steps (0 .. 2000): in how many the new plan was TAKEN.");
        PlanningHouse x = Due.of(TEXTS[1]);
        x.put(0, 1, 2);
        for (int how = 0; how < 4; how++) {
            Due.is("no steps", x.search(0, how, 1, LEAST + how, 0), 0);
            Due.is("t", x.searched(0), 1);
            Due.is("the seed", x.searched(1), LEAST + how);
            Due.is("the step", x.searched(2), PlanningHouse.NONE);
            Due.planIs(x, 0, "3 2");
        }
        // one step draws 4, a var, a place: the first draw of seed 0 is 1013904223 >>> 8 = 3960563, modulo 4 is 3
        PlanningHouse y = Due.of(TEXTS[0]);
        Due.is("one step that ends at k 3: one var alone", y.search(0, 0, 0, 0, 1), 0);
        int z = 1013904223;
        z = z * 1664525 + 1013904223;
        z = z * 1664525 + 1013904223;
        Due.is("three were drawn", y.searched(1), z);
        Due.is("t", y.searched(0), 1);
    }

    private static void lengths() {
        Edge.of(Edge.TERMS, "0: if the current one is not better. 1, with a LENGTH of 1 to 20: a row of so many plans' scores, those of the beginning at first");
        int[][] lengths = {{0}, {1, 2, 3, 19, 20}, {1, 2, 3, 99, 100}, {1, 2, 150, 9999, 10000}};
        for (String text : TEXTS) {
            for (int how = 0; how < 4; how++) {
                for (int length : lengths[how]) {
                    for (int seed = 0; seed < 12; seed++) same(text, seed == 11 ? 1 : 0, how, length, seed * 987654321, 10 + 7 * seed);
                }
            }
        }
    }

    private static void manySteps() {
        Edge.of(54, "0 a number t that is 1 at first and becomes 31 t + k for each step in which the new plan was TAKEN, k being its draw of 4 (wrapping)");
        int[] most = {0, 20, 100, 10000};
        for (int how = 0; how < 4; how++) {
            for (String text : TEXTS) same(text, 0, how, most[how], how - 2, 2000);
        }
        PlanningHouse x = Due.of(TEXTS[4]);
        Due.is("nearly all are taken", x.search(0, 0, 0, 4, 2000) > 1400, true);
        Due.is("none is better than the first", x.searched(2), PlanningHouse.NONE);
        Due.planIs(x, 0, "0 7 2");
    }

    private static void wraps() {
        Edge.of(Edge.TERMS, "z becomes z * 1664525 + 1013904223 (wrapping), the answer is (z moved right by 8, zeros coming in) modulo n.");
        for (int seed : new int[] {LEAST, LEAST + 1, -1, 0, 1, MOST - 1, MOST, 255, 256, -256}) {
            for (int how = 0; how < 4; how++) same(TEXTS[2], 0, how, 9, seed, 60);
        }
    }

    private static void equalOnes() {
        Edge.of(Edge.TERMS, "(A new plan may be the current one.)");
        // all vars have the same value: an exchange is a step that is taken and changes nothing
        boolean met = false;
        for (int seed = 0; seed < 200 && !met; seed++) {
            PlanningHouse x = Due.of("var a in 0..1;var b in 0..1;aim m at 1:a+b;");
            int taken = x.search(0, 0, 0, seed, 1);
            if (x.searched(0) != 31 + 3) continue;
            met = true;
            Due.is("an exchange of the same", taken, 1);
            Due.planIs(x, 0, "0 0");
            Due.is("it is not better than the kept one", x.searched(2), PlanningHouse.NONE);
        }
        Due.is("there is such a seed", met, true);
        Edge.of(Edge.TERMS, "if they are one var, or a value is not in the other one's range, the step ends here (nothing is drawn more, and nothing is taken)");
        for (int seed = 0; seed < 60; seed++) {
            same("var a in{0,1};var b in{1,5};rule s at 1*1:a=1;rule t at 1*1:b=5;", 0, 1, 3, seed, 30);
            same("var a in{0,1};var b in{7,0};var c in 0..0;", 0, 2, 2, seed, 30);
        }
    }

    private static void barred() {
        Edge.of(Edge.TERMS, "2, with a LENGTH: a var may not change (or be exchanged) in the LENGTH steps behind one (s + 1 to s + LENGTH)"
            + " that changed it (or exchanged it) and was taken; but it may, if the new plan is better than the kept one");
        // every plan is as good as all others: what may, is taken, so the steps that are not taken are those of barred vars
        for (int length = 1; length <= 100; length += 9) {
            for (int seed = 0; seed < 8; seed++) {
                same("var a in 0..3;var b in 0..3;var c in 0..3;aim m at 1:7;", 0, 2, length, seed * 31, 40 + 2 * length);
                same("var a in 0..1;aim m at 1:7;", 0, 2, length, seed * 37, 40 + 3 * length);
            }
        }
        for (int seed = 0; seed < 80; seed++) {
            same("var a in 0..9;var b in 0..9;aim m at 1:abs(a-7)+abs(b-4);", 0, 2, 3, seed, 40);
            same("var a in{9,5,7};var b in 5..9;var c in{7};var d in{6,9};aim m at 2:a*2-b+d;", 0, 2, 1 + seed % 7, -seed, 40);
        }
    }

    private static void slack() {
        Edge.of(Edge.TERMS, "3, with a LENGTH of 1 to 10000: the new one's WORTH less the current one's is not more than LENGTH less LENGTH * s / steps, cut down;"
            + " WORTH is 10000 times the score at level 0, 100 times that at 1, and that at 2, together.");
        // of two plans one is worse by so much: taken up to and with that LENGTH in step 0, the only one
        int[] worths = {1, 2, 99, 100, 101, 200, 9999, 10000};
        for (int worth : worths) {
            int hard = worth / 10000;
            int one = worth % 10000 / 100;
            int two = worth % 100;
            String text = "var a in 0..1;rule h at 0*1:a=0|" + (hard == 0 ? "1=1" : "1=0") + ";aim m at 1:" + one + "*a;aim n at 2:" + two + "*a;";
            for (int length : new int[] {worth - 1, worth, worth + 1}) {
                if (length < 1 || length > 10000) continue;
                int taken = 0;
                for (int seed = 0; seed < 8; seed++) {
                    PlanningHouse x = Due.of(text);
                    taken += x.search(0, 3, length, seed, 1);
                    Due.is("the kept one stays", x.value(0, 0), 0);
                }
                Due.is("worse by " + worth + " with " + length, taken > 0, length >= worth);
            }
        }
        for (int seed = 0; seed < 40; seed++) {
            same("var a in 0..4;var b in 0..4;rule h at 0*1:a>=2;aim m at 1:b;aim n at 2:a-3*b;", 0, 3, 1 + seed * 7, seed, 1 + seed);
            same("var a in 0..4;var b in 0..4;rule h at 0*1:a>=2;aim m at 1:b;aim n at 2:a-3*b;", 0, 3, 9999, seed, 50);
            same("var a in 0..19;aim n at 2:a;", 0, 3, 1 + seed % 9, seed, 7);
            same("var a in 0..19;aim n at 2:a;", 0, 3, 7, seed, 30);
        }
    }

    /** A search knows nothing of the one before. */
    private static void again() {
        Edge.of(Edge.TERMS, "z is the seed at first");
        for (int seed = 0; seed < 20; seed++) {
            for (int how = 0; how < 4; how++) {
                String text = TEXTS[1 + seed % 3];
                PlanningHouse once = Due.of(text);
                PlanningHouse twice = Due.of(text);
                twice.search(0, (how + seed) % 4, 5, seed * 77, 60);
                for (int v = 0; v < twice.count(0, 1); v++) twice.put(0, v, (int) twice.range(0, v, 0));
                Due.is("a second search", twice.search(0, how, 3, seed, 30), once.search(0, how, 3, seed, 30));
                for (int what = 0; what < 3; what++) Due.is("searched", twice.searched(what), once.searched(what));
                Due.same("the plan at hand", Due.plan(twice, 0), Due.plan(once, 0));
                twice.search(0, how, 3, seed, 0);
                Due.is("t", twice.searched(0), 1);
                Due.is("the step", twice.searched(2), PlanningHouse.NONE);
            }
        }
    }
}
