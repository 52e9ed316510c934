/** Promises 55 and 56: proofs that are checked and made. */
public final class ProofTest {
    /** Feasible are 0 and 2 for a; scores at levels 1, 2: 0 0: 4 0, 0 1: 2 1, 2 0: 0 0, 2 1: 0 1. */
    private static final String TEXT = "var a in 0..2; var b in 0..1; rule h at 0*1: a # 1; rule s at 1*2: a + b >= 2; aim m at 2: b;";

    public static void main(String[] args) {
        right();
        notRight();
        names();
        forms();
        pinned();
        bounds();
        made();
        notMade();
        faults();
        Due.end();
    }

    private static PlanningHouse solved() {
        PlanningHouse x = Due.of(TEXT);
        x.solve(0);
        Due.planIs(x, 0, "2 0");
        return x;
    }

    private static void right() {
        PlanningHouse x = solved();
        Due.proved(x, "<");
        Due.proved(x, "a(<,!h,<)");
        Due.proved(x, "a(<,!h,b(.,.))");
        Due.proved(x, "b(a(.,.,.),<)");
        Due.proved(x, " a % remark\n ( b(. , .),\t! h , b(<,.) ) \r\n");
        Due.proved(x, "a(b(<,<),b(!h,!h),b(<,<))");
        Due.planIs(x, 0, "2 0");
    }

    private static void notRight() {
        PlanningHouse x = solved();
        Due.notProved(x, "@!h", 8);
        Due.notProved(x, "@.", 8);
        Due.notProved(x, "a(@.,!h,<)", 8);
        Due.notProved(x, "a(@!h,!h,<)", 8);
        Due.notProved(x, "a(<,!h,@! h)", 8);
        x.put(0, 1, 1);
        Due.notProved(x, "@<", 8);
        Due.notProved(x, "a(<,!h,b(@.,.))", 8);
        Due.notProved(x, "a(<,!h,b(@<,.))", 8);
        x.put(0, 1, 0);
        Due.proved(x, "a(b(.,.),b(.,.),b(.,.))");
    }

    private static void names() {
        PlanningHouse x = solved();
        Due.notProved(x, "@c(.,.)", 4);
        Due.notProved(x, "@h(.,.)", 4);
        Due.notProved(x, "@m", 4);
        Due.notProved(x, "a(<,! @s,<)", 4);
        Due.notProved(x, "a(<,! @a,<)", 4);
        Due.notProved(x, "a(<,! @x,<)", 4);
        Due.notProved(x, "! @x", 4);
        Due.notProved(x, "a(@a(<,<,<),!h,<)", 4);
        Due.notProved(x, "a(b(@b(.,.),.),!h,<)", 4);
    }

    private static void forms() {
        PlanningHouse x = solved();
        Due.notProved(x, "@", 2);
        Due.notProved(x, "% nothing@", 2);
        Due.notProved(x, "@$", 1);
        Due.notProved(x, "@..", 2);
        Due.notProved(x, "@(", 2);
        Due.notProved(x, "@7", 2);
        Due.notProved(x, "@all(<)", 2);
        Due.notProved(x, "< @<", 2);
        Due.notProved(x, "< @;", 2);
        Due.notProved(x, "< @$", 1);
        Due.notProved(x, "a@", 2);
        Due.notProved(x, "a @<", 2);
        Due.notProved(x, "a(@)", 2);
        Due.notProved(x, "a(<,!h@)", 2);
        Due.notProved(x, "a(<,!h,<@,<)", 2);
        Due.notProved(x, "a(<,!h,<@", 2);
        Due.notProved(x, "a(<,!h @<", 2);
        Due.notProved(x, "a(<,!@,<)", 2);
        Due.notProved(x, "a(<,!@max,<)", 2);
        Due.notProved(x, "a(<,!@12345,<)", 1);
        Due.notProved(x, "a(<,!h,@<=)", 2);
        Due.notProved(x, "a(@abcdefghi,!h,<)", 1);
    }

    private static void pinned() {
        PlanningHouse x = solved();
        x.pin(0, 0, true);
        Due.proved(x, "b(.,.)");
        Due.proved(x, "<");
        Due.notProved(x, "@a(<,!h,<)", 4);
        x.pin(0, 1, true);
        Due.proved(x, ".");
        Due.proved(x, "<");
        Due.notProved(x, "@b(.,.)", 4);
        x.put(0, 0, 1);
        Due.proved(x, "!h");
        Due.proved(x, ".");
        Due.is("prove with all pinned", x.prove(0), 1);
        Due.same("the tape", Due.tape(x), ".");
    }

    /** Least of each rule and aim for itself, level by level. */
    private static void bounds() {
        PlanningHouse x = Due.of("var a in 0..3; rule r at 1*3: a >= 2; rule s at 1*5: a <= 1; aim m at 2: -a; aim n at 2: a * a;");
        // scores: 0: 6 0, 1: 3 0, 2: 5 2, 3: 10 6; the bound of all: 0 and -3
        x.solve(0);
        Due.planIs(x, 0, "1");
        Due.notProved(x, "@<", 8);
        Due.proved(x, "a(<,<,<,<)");
        x.put(0, 0, 2);
        Due.notProved(x, "a(<,@<,<,<)", 8);
        PlanningHouse y = Due.of("var a in 0..1; var b in 0..1; aim m at 1: a; aim n at 1: 0 - a; rule r at 2*1: b = a;");
        y.put(0, 0, 1);
        y.put(0, 1, 1);
        Due.notProved(y, "@<", 8);
        Due.proved(y, "a(<,<)");
        y.put(0, 1, 0);
        Due.notProved(y, "a(@<,<)", 8);
        Due.notProved(y, "a(b(@<,<),<)", 8);
        PlanningHouse z = Due.of("var a in 0..1; rule h at 0*2: a = 5;");
        // not feasible, but better than all others: the bound's level 0 counts
        z.put(0, 0, 1);
        Due.proved(z, "<");
        z.put(0, 0, 0);
        Due.notProved(z, "@<", 8);
        Due.proved(z, "a(.,.)");
        Due.proved(z, "!h");
    }

    private static void made() {
        PlanningHouse x = solved();
        Due.type(x, "anything");
        Due.is("prove", x.prove(0), 23);
        Due.same("the proof", Due.tape(x), "a(b(.,.),b(.,.),b(.,.))");
        Due.is("check", x.check(0), 0);
        x.pin(0, 1, true);
        Due.is("prove with a pin", x.prove(0), 8);
        Due.same("the proof", Due.tape(x), "a(.,.,.)");
        Due.is("check", x.check(0), 0);
        PlanningHouse y = Due.of("var abcdefgh in 4..4; var b in 0..1; rule h at 0*1: b = 9;");
        Due.is("prove that none is feasible", y.prove(0), 16);
        Due.same("the proof", Due.tape(y), "abcdefgh(b(.,.))");
        Due.is("check", y.check(0), 0);
    }

    private static void notMade() {
        PlanningHouse x = Due.of(TEXT);
        Due.type(x, "abc");
        Due.is("some are better", x.prove(0), PlanningHouse.NONE);
        Due.same("the tape stays", Due.tape(x), "abc");
        x.put(0, 0, 1);
        Due.is("not feasible", x.prove(0), PlanningHouse.NONE);
        x.put(0, 0, 2);
        x.put(0, 1, 1);
        Due.is("one is better", x.prove(0), PlanningHouse.NONE);
        x.pin(0, 1, true);
        Due.is("that is not allowed", x.prove(0), 8);
        PlanningHouse y = Due.of("var a in 0..19; var b in 0..19; var c in 0..19; var d in 0..1;");
        Due.type(y, "abc");
        // d(.,.) has 6 bytes, c 22 more than 20 times 6, b 22 more than 20 times that, a likewise: 57262
        Due.is("too long", y.prove(0), PlanningHouse.NONE);
        Due.same("the tape stays", Due.tape(y), "abc");
        y.pin(0, 0, true);
        Due.is("not too long", y.prove(0), 22 + 20 * (22 + 20 * 6));
        edge("aaa", 20000);
        edge("aaaa", PlanningHouse.NONE);
    }

    /** d 3 + 2 + 19 + 20 = 44 bytes, c 6 + 21 + 880 = 907, b 8 + 12 + 9977 = 9997, and 2 * 9997 + 3 with the first name. */
    private static void edge(String first, int want) {
        PlanningHouse x = Due.of("var " + first + " in 0..1; var bbbbbbbb in 0..10; var cccccc in 0..19; var ddd in 0..19;");
        Due.is("prove", x.prove(0), want);
        Due.is("the tape", x.cut(0), Math.max(want, 0));
    }

    private static void faults() {
        PlanningHouse x = solved();
        Due.is("fault of a problem", Due.read(x, "var a in 5..1;"), -13);
        Due.is("fault", x.fault(), 5);
        Due.is("no problem", x.check(1), PlanningHouse.FULL);
        Due.is("no text was read", x.fault(), 5);
        Due.is("check", x.check(0), -1);
        Due.is("fault", x.fault(), 2);
        Due.is("no problem", x.prove(1), PlanningHouse.NONE);
        Due.is("no problem", x.prove(-1), PlanningHouse.NONE);
        Due.is("prove", x.prove(0) > 0, true);
        Due.is("fault stays", x.fault(), 2);
        Due.is("check", x.check(0), 0);
        Due.is("fault", x.fault(), 0);
    }
}
