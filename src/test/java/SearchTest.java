/** Promises 53 and 54: searches by moves from seeds. */
public final class SearchTest {
    private static int z;

    public static void main(String[] args) {
        edges();
        notFree();
        for (int how = 0; how < 4; how++) {
            for (int seed = -40; seed < 40; seed++) oneVar(how, seed * 1234567, seed & 1);
        }
        exchange();
        pinsAndKept();
        Due.end();
    }

    private static void edges() {
        PlanningHouse x = Due.of("var a in 0..1; aim m at 1: a;");
        Due.is("before any", x.searched(0), PlanningHouse.NONE);
        int[][] wrong = {{0, 0, -1}, {0, 0, 2001}, {-1, 1, 5}, {4, 1, 5}, {1, 0, 5}, {1, 21, 5}, {2, 0, 5}, {2, 101, 5}, {3, 0, 5}, {3, 10001, 5}, {3, -1, 5}};
        for (int[] w : wrong) Due.is("wrong", x.search(0, w[0], w[1], 7, w[2]), PlanningHouse.NONE);
        Due.is("no problem", x.search(1, 0, 0, 7, 5), PlanningHouse.NONE);
        Due.is("still before any", x.searched(1), PlanningHouse.NONE);
        Due.is("no steps", x.search(0, 0, -5, 77, 0), 0);
        Due.is("t", x.searched(0), 1);
        Due.is("the seed", x.searched(1), 77);
        Due.is("kept", x.searched(2), PlanningHouse.NONE);
        Due.is("what 3", x.searched(3), PlanningHouse.NONE);
        Due.is("what -1", x.searched(-1), PlanningHouse.NONE);
        x.search(0, 4, 1, 9, 5);
        Due.is("the seed of the one before", x.searched(1), 77);
        Due.is("steps 2000", x.search(0, 1, 20, 1, 2000) >= 0, true);
        Due.is("length 100", x.search(0, 2, 100, 1, 10) >= 0, true);
        Due.is("length 10000", x.search(0, 3, 10000, 1, 10) >= 0, true);
        Due.is("length 1", x.search(0, 3, 1, 1, 10) >= 0, true);
    }

    private static void notFree() {
        PlanningHouse x = Due.of("var a in 0..1; var b in 5..5; aim m at 1: a;");
        x.put(0, 0, 1);
        x.pin(0, 0, true);
        Due.is("no var is free", x.search(0, 0, 0, -9, 50), 0);
        Due.is("t", x.searched(0), 1);
        Due.is("the seed", x.searched(1), -9);
        Due.is("kept", x.searched(2), PlanningHouse.NONE);
        Due.is("NONE is looked at first", x.search(0, 1, 0, -8, 50), PlanningHouse.NONE);
        Due.is("the seed stays", x.searched(1), -9);
    }

    private static int draw(int n) {
        z = z * 1664525 + 1013904223;
        return (z >>> 8) % n;
    }

    /** One var of two values, whose score at level 1 is its value: each step turns it, or ends at k 3. */
    private static void oneVar(int how, int seed, int start) {
        int steps = 40;
        int length = new int[] {0, 3, 4, 250}[how];
        PlanningHouse x = Due.of("var a in 0..1; aim m at 1: a;");
        x.put(0, 0, start);
        z = seed;
        int a = start;
        int kept = start;
        int keptStep = -1;
        int taken = 0;
        int t = 1;
        int[] row = {start, start, start};
        int changed = -100;
        for (int s = 0; s < steps; s++) {
            int k = draw(4);
            draw(1);
            draw(1);
            if (k == 3) continue;
            int next = 1 - a;
            boolean takes = next <= a;
            if (how == 1) takes |= next <= row[s % 3];
            if (how == 2) {
                boolean may = s > changed + length || next < kept;
                if (may && !takes) takes = draw(8) == 0;
                takes &= may;
            }
            if (how == 3) takes = 100 * (next - a) <= length - length * s / steps;
            if (takes) {
                a = next;
                taken++;
                t = 31 * t + k;
                changed = s;
                if (a < kept) {
                    kept = a;
                    keptStep = s;
                }
            }
            row[s % 3] = a;
        }
        String what = "how " + how + " seed " + seed;
        Due.is(what + " taken", x.search(0, how, length, seed, steps), taken);
        Due.is(what + " t", x.searched(0), t);
        Due.is(what + " seed", x.searched(1), z);
        Due.is(what + " kept", x.searched(2), keptStep);
        Due.is(what + " value", x.value(0, 0), kept);
    }

    /** Of two vars with the same two values, and a third that can't be exchanged with them. */
    private static void exchange() {
        for (int seed = 0; seed < 60; seed++) {
            PlanningHouse x = Due.of("var a in 0..2; var b in {2, 0}; var c in 7..8; rule r at 1*1: a = 0; rule s at 1*1: b = 2;");
            x.put(0, 0, 2);
            x.put(0, 1, 0);
            z = seed;
            int k = draw(4);
            int v = draw(3);
            int w = k < 3 ? v : draw(3);
            boolean both = k == 3 && v != w && v < 2 && w < 2;
            boolean oneOf = k < 3;
            int place = !oneOf ? 0 : draw(v == 0 ? 2 : 1);
            int a = both ? 0 : 2;
            int b = both ? 2 : 0;
            int c = 7;
            if (oneOf && v == 0) a = place;
            if (oneOf && v == 1) b = 2;
            if (oneOf && v == 2) c = 8;
            boolean better = a < 2 || b == 2;
            int taken = both || oneOf ? 1 : 0;
            Due.is("search", x.search(0, 0, 0, seed, 1), taken);
            Due.is("seed", x.searched(1), z);
            Due.is("t", x.searched(0), taken == 1 ? 31 + k : 1);
            Due.is("kept", x.searched(2), better ? 0 : PlanningHouse.NONE);
            Due.planIs(x, 0, better ? a + " " + b + " " + c : "2 0 7");
        }
    }

    private static void pinsAndKept() {
        PlanningHouse x = Due.of("var a in 0..9; var b in 0..9; rule h at 0*1: a + b >= 12; aim m at 1: a + b; aim n at 2: a * b;");
        x.put(0, 0, 5);
        x.pin(0, 0, true);
        x.search(0, 3, 10000, 99, 300);
        Due.is("the pinned one stays", x.value(0, 0), 5);
        Due.is("the best is kept", x.value(0, 1), 7);
        Due.is("it was found", x.searched(2) >= 0, true);
        int taken = x.search(0, 0, 0, 5, 200);
        Due.is("none is as good", taken, 0);
        Due.is("t", x.searched(0), 1);
    }
}
