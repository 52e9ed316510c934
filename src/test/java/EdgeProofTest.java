/** The edges of proofs: promises 55 and 56, and the chapter PROOFS. */
public final class EdgeProofTest {
    /** Scores at levels 0, 1, 2: a 0: 0 2 0, 1: 0 2 -1, 2: 0 2 -1, 3: 5 0 0; b does not matter. */
    private static final String TEXT = "var a in 0..3;var b in{7,8};rule h at 0*5:a<3|1=0;rule i at 0*1:a<9;rule s at 1*2:a=3|1=0;aim m at 2:pick(a:0,-1,-1);";

    public static void main(String[] args) {
        noProblem();
        tokens();
        names();
        ruledOut();
        allGiven();
        bounds();
        boundOfEach();
        pinned();
        treesOfValues();
        firstFault();
        twelve();
        prove();
        notProved();
        length();
        Due.end();
    }

    private static PlanningHouse at(int a, int b) {
        PlanningHouse x = Due.of(TEXT);
        Due.is("put", x.put(0, 0, a), true);
        Due.is("put", x.put(0, 1, b), true);
        return x;
    }

    private static void noProblem() {
        Edge.of(55, "0 when it is RIGHT, -1 less the place of its fault otherwise. FULL without the problem.");
        for (int p : new int[] {-1, 1, 4, Integer.MIN_VALUE, Integer.MAX_VALUE}) {
            Edge.refused("check(" + p + ")", x -> x.check(p), PlanningHouse.FULL);
        }
        Due.is("check of a new house", new PlanningHouse().check(0), PlanningHouse.FULL);
    }

    private static void tokens() {
        Edge.of(Edge.TERMS, "fault() tells 1 and 2 as for texts, 4 for those NAMES, 8 for a TREE that is not right.");
        PlanningHouse x = at(1, 7);
        for (int b = 0; b < 256; b++) {
            char c = (char) b;
            boolean blank = c == 9 || c == 10 || c == 13 || c == ' ';
            boolean letter = c >= 'a' && c <= 'z' || c >= 'A' && c <= 'Z';
            boolean begins = c >= '0' && c <= '9' || ";=#>+-*()[]{},:&|~".indexOf(c) >= 0;
            PlanningHouse y = at(1, 7);
            if (blank || c == '%') Due.notProved(y, c + "@", 2);
            else if (c == '!') Due.notProved(y, "!@", 2);
            else if (c == 'a' || c == 'b') Due.notProved(y, c + "@", 2);
            else if (c == '.' || c == '<') Due.notProved(y, "@" + c, 8);
            else Due.notProved(y, "@" + c, letter ? 4 : begins ? 2 : 1);
        }
        Due.notProved(x, "@", 2);
        Due.notProved(x, "% .\n@", 2);
        Due.notProved(x, "@..", 2);
        Due.notProved(x, "@<=", 2);
        Due.notProved(x, "@abcdefghi", 1);
        Due.notProved(x, "@12345", 1);
        Due.notProved(x, "@max", 2);
        Due.notProved(x, "@fact(.)", 2);
        Due.notProved(x, "a(<,<,<,!h)@.", 2);
        Due.notProved(x, "a(<,<,<,!h)@,", 2);
        Due.notProved(x, "a(<,<,<,!h)@\u00ff", 1);
        Due.notProved(x, "a(<,<,<,!h@", 2);
        Due.notProved(x, "a(<,<,<,!@", 2);
        Due.notProved(x, "a@", 2);
        Due.notProved(x, "a(@", 2);
        Due.notProved(x, "!@", 2);
        Due.notProved(x, "!@!h", 2);
        Due.notProved(x, "!@.", 2);
        Due.notProved(x, "!@max", 2);
        Due.notProved(x, "!@abcdefghi", 1);
        Due.proved(x, " %\n a % \n(\t<\r, <,<, ! h ) % the end");
    }

    private static void names() {
        Edge.of(Edge.TERMS, "a NAME behind ! that is no hard rule's, and one with which a TREE begins that is no var's, or that of a var that is given, at it");
        PlanningHouse x = at(1, 7);
        for (String name : new String[] {"s", "m", "a", "b", "x", "H"}) {
            Due.notProved(x, "! @" + name, 4);
            Due.notProved(x, "a(<,<,<,!@" + name + ")", 4);
        }
        for (String name : new String[] {"h", "i", "s", "m", "x", "A"}) {
            Due.notProved(x, "@" + name + "(<,<)", 4);
            Due.notProved(x, "@" + name, 4);
            Due.notProved(x, "a(<,<,<,@" + name + "(<))", 4);
        }
        Due.notProved(x, "a(@a(<,<,<,<),<,<,!h)", 4);
        Due.notProved(x, "a(<,<,<,@a(!h,!h,!h,!h))", 4);
        Due.notProved(x, "b(a(@b(<,<),<,<,!h),<)", 4);
        Due.proved(x, "b(a(<,<,<,!h),a(<,<,<,!h))");
    }

    private static void ruledOut() {
        Edge.of(Edge.TERMS, "! NAME of a hard rule, if each plan with the values that are given breaks that rule");
        PlanningHouse x = at(1, 7);
        Due.proved(x, "a(<,<,<,!h)");
        Due.proved(x, "a(<,<,<,b(!h,!h))");
        Due.notProved(x, "a(<,<,@!h,!h)", 8);
        Due.notProved(x, "@!h", 8);
        Due.notProved(x, "a(<,<,<,@!i)", 8);
        Due.notProved(x, "a(<,<,<,b(!h,@!i))", 8);
        StringBuilder many = new StringBuilder("var a in 0..3;");
        for (int r = 0; r < 23; r++) many.append("rule r").append(r).append(r < 11 ? " at 0*1:a=a;" : " at 1*1:a=9;");
        PlanningHouse last = Due.of(many + "rule z at 0*1:a>=2;");
        last.put(0, 0, 3);
        Due.proved(last, "a(!z,!z,.,.)");
        Due.notProved(last, "a(!z,!z,@!z,.)", 8);
        Due.notProved(last, "a(!z,@!r10,.,.)", 8);
        Due.notProved(last, "a(!z,!@r11,.,.)", 4);
        PlanningHouse y = Due.of("fact f=9;var a in 0..3;rule h at 0*1:a>=f;");
        Due.proved(y, "!h");
        y.change(0, 0, 3);
        Due.notProved(y, "@!h", 8);
        Due.notProved(y, "a(!h,!h,!h,@!h)", 8);
        Due.proved(of(y, 3), "a(!h,!h,!h,.)");
    }

    private static PlanningHouse of(PlanningHouse x, int a) {
        x.put(0, 0, a);
        return x;
    }

    private static void allGiven() {
        Edge.of(Edge.TERMS, ". if the values of all vars are given, and that plan is not feasible, or the plan at hand is not worse");
        PlanningHouse x = at(1, 7);
        Due.proved(x, "a(b(.,.),b(.,.),b(.,.),b(.,.))");
        Due.notProved(x, "@.", 8);
        Due.notProved(x, "a(@.,<,<,!h)", 8);
        Due.notProved(x, "a(<,<,<,@.)", 8);
        Due.notProved(x, "b(@.,<)", 8);
        PlanningHouse y = at(0, 7);
        Due.notProved(y, "a(b(.,.),b(@.,.),b(.,.),b(.,.))", 8);
        PlanningHouse z = at(2, 8);
        Due.proved(z, "a(b(.,.),b(.,.),b(.,.),b(.,.))");
        // a plan at hand that is not feasible is worse than those that are, and as good as it itself
        PlanningHouse w = at(3, 7);
        Due.notProved(w, "a(b(@.,.),b(.,.),b(.,.),b(.,.))", 8);
        Due.proved(of(Due.of("var a in 0..1;rule h at 0*1:a>5;"), 0), "a(.,.)");
        Due.proved(of(Due.of("var a in 0..1;rule h at 0*1:a>5;"), 1), "a(.,.)");
        // one value alone must be given, too
        PlanningHouse one = Due.of("var a in 0..1;var b in 5..5;");
        Due.notProved(one, "a(@.,.)", 8);
        Due.proved(one, "a(b(.),b(.))");
        Due.proved(one, "b(a(.,.))");
        one.pin(0, 1, true);
        Due.proved(one, "a(.,.)");
    }

    private static void bounds() {
        Edge.of(Edge.TERMS, "< if the plan at hand is not worse than the BOUND: at each level the sum of weight times the least by which a rule"
            + " of that level is broken, of each rule for itself over all plans with the given values, and of the least of each aim likewise");
        // the bound of all: level 0: 0, level 1: 0, level 2: -1
        PlanningHouse x = at(1, 7);
        Due.notProved(x, "@<", 8);
        Due.proved(x, "a(<,<,<,<)");
        Due.proved(x, "b(a(<,<,<,<),a(<,<,<,<))");
        PlanningHouse y = at(0, 7);
        Due.notProved(y, "a(<,@<,<,<)", 8);
        PlanningHouse z = at(3, 7);
        Due.notProved(z, "a(@<,<,<,<)", 8);
        // level by level: just as good is right, worse by one is not
        for (int level = 0; level < 3; level++) {
            String text = level == 0 ? "rule h at 0*1:a=0;" : "aim m at " + level + ":a;";
            PlanningHouse w = Due.of("var a in 0..1;" + text);
            Due.proved(w, "<");
            w.put(0, 0, 1);
            Due.notProved(w, "@<", 8);
            Due.notProved(w, "a(@<,<)", 8);
        }
        // better at level 1 and worse at level 2 is not worse
        PlanningHouse v = Due.of("var a in{1,0};var b in 0..1;aim m at 1:a;aim n at 2:b;");
        v.put(0, 0, 0);
        v.put(0, 1, 1);
        Due.notProved(v, "a(<,@<)", 8);
        Due.notProved(v, "b(@<,<)", 8);
        v.put(0, 1, 0);
        Due.proved(v, "<");
    }

    private static void boundOfEach() {
        Edge.of(Edge.TERMS, "of each rule for itself over all plans with the given values, and of the least of each aim likewise");
        PlanningHouse x = Due.of("var a in 0..1;rule r at 1*3:a=0;rule s at 1*3:a=1;");
        Due.notProved(x, "@<", 8);
        Due.proved(x, "a(<,<)");
        PlanningHouse y = Due.of("var a in 0..1;aim m at 1:a;aim n at 1:-a;");
        Due.notProved(y, "@<", 8);
        Due.proved(y, "a(<,<)");
        PlanningHouse z = Due.of("var a in 0..1;rule s at 1*7:a=5;");
        Due.notProved(z, "@<", 8);
        Due.notProved(z, "a(<,@<)", 8);
        z.put(0, 0, 1);
        Due.proved(z, "<");
        PlanningHouse w = Due.of("var a in 0..1;rule s at 0*7:a=5;rule t at 0*2:a=0;");
        Due.notProved(w, "a(<,@<)", 8);
        w.put(0, 0, 1);
        // at level 0 the bound is 28 and 0, and the plan's score 28 and 2
        Due.notProved(w, "@<", 8);
        Due.proved(w, "a(<,<)");
        StringBuilder text = new StringBuilder("var a in 0..1;");
        for (int r = 0; r < 24; r++) text.append("rule r").append(r).append(" at 1*1000:1000*1000<-(1000*1000);");
        for (int i = 0; i < 6; i++) text.append("aim m").append(i).append(" at 2:-(1000*1000);");
        Due.proved(Due.of(text.toString()), "<");
    }

    private static void pinned() {
        Edge.of(Edge.TERMS, "GIVEN are at first the values of pinned vars");
        PlanningHouse x = at(1, 7);
        x.pin(0, 0, true);
        Due.proved(x, "<");
        Due.proved(x, "b(.,.)");
        Due.notProved(x, "@a(<,<,<,!h)", 4);
        Due.notProved(x, "@.", 8);
        x.pin(0, 1, true);
        Due.proved(x, ".");
        Due.proved(x, "<");
        Due.notProved(x, "@b(.,.)", 4);
        Due.notProved(x, "@!h", 8);
        x.put(0, 0, 3);
        Due.proved(x, "!h");
        Due.proved(x, ".");
        Due.proved(x, "<");
        x.pin(0, 0, false);
        Due.notProved(x, "a(@.,.,.,.)", 8);
    }

    private static void treesOfValues() {
        Edge.of(Edge.TERMS, "TREES: one for each value of that var's range, in order, with , between.");
        PlanningHouse x = at(1, 7);
        Due.notProved(x, "a(<,<,<@)", 2);
        Due.notProved(x, "a(<,<,<,!h@,<)", 2);
        Due.notProved(x, "a(@)", 2);
        Due.notProved(x, "a(<,@,<,<)", 2);
        Due.notProved(x, "a(< @<,<,!h)", 2);
        Due.notProved(x, "a @<", 2);
        Due.notProved(x, "a(@(<,<,<,!h))", 2);
        PlanningHouse one = Due.of("var a in 7..7;");
        Due.proved(one, "a(.)");
        Due.notProved(one, "a(@)", 2);
        Due.notProved(one, "a(.@,.)", 2);
        PlanningHouse twenty = Due.of("var a in 0..19;aim m at 1:a;");
        Due.proved(twenty, "a(" + ".,".repeat(19) + ".)");
        Due.notProved(twenty, "a(" + ".,".repeat(18) + ".@)", 2);
        Due.notProved(twenty, "a(" + ".,".repeat(19) + ".@,.)", 2);
        PlanningHouse turned = Due.of("var a in{3,0,1};rule h at 0*1:a#0;aim m at 1:a;");
        turned.put(0, 0, 1);
        Due.proved(turned, "a(.,!h,.)");
        Due.notProved(turned, "a(@!h,.,.)", 8);
        Due.notProved(turned, "a(.,.,@!h)", 8);
    }

    private static void firstFault() {
        Edge.of(Edge.TERMS, "THE FAULT of a proof is the first token that can't stand there, or with which a TREE is not right");
        PlanningHouse x = at(1, 7);
        Due.notProved(x, "@!h$", 8);
        Due.notProved(x, "@. .", 8);
        Due.notProved(x, "@< $", 8);
        Due.notProved(x, "!@x$", 4);
        Due.notProved(x, "!@5", 2);
        Due.notProved(x, "!@$", 1);
        Due.notProved(x, "a(@.,$", 8);
        Due.notProved(x, "a(<,@$", 1);
        Due.notProved(x, "a(<,<,@!h,x", 8);
        Due.notProved(x, "@x $", 4);
        Due.notProved(x, "a(<,<,<,!h @h)", 2);
        Due.notProved(x, "a(<,<,<,@!i", 8);
        PlanningHouse y = at(0, 7);
        Due.notProved(y, "a(<,b(@.,.),<,<)", 8);
        Due.notProved(y, "a(<,@<,b(.,.),<)", 8);
        Due.notProved(y, "a(<,b(@<,.),<,<)", 8);
    }

    private static void twelve() {
        Edge.of(Edge.TERMS, "at most 12 TREES with NAME ( lie in one another (for vars are given)");
        StringBuilder text = new StringBuilder();
        StringBuilder proof = new StringBuilder();
        for (int i = 0; i < 12; i++) {
            text.append("var v").append(i).append(" in 0..1;");
            proof.append('v').append(11 - i).append("(<,");
        }
        PlanningHouse x = Due.of(text + "aim m at 1:v0+v11;");
        Due.proved(x, proof + "." + ")".repeat(12));
        Due.notProved(x, proof + "@v0(.,.)" + ")".repeat(12), 4);
        Due.notProved(x, proof + "@v12(.,.)" + ")".repeat(12), 4);
        Due.notProved(x, proof.substring(0, proof.length() - 5) + "@." + ")".repeat(11), 8);
        x.put(0, 0, 1);
        Due.notProved(x, "v11(@" + proof.substring(4) + "." + ")".repeat(12), 8);
    }

    private static void made(PlanningHouse x, String want) {
        x.cut(0);
        Due.type(x, "old");
        Due.is("prove", x.prove(0), want.length());
        Due.same("the proof", Due.tape(x), want);
        Due.is("check", x.check(0), 0);
        Due.is("fault()", x.fault(), 0);
    }

    private static void prove() {
        Edge.of(56, "The tape becomes a PROOF that is right for the plan at hand, of NAME ( TREES ) and . alone (vars that are not pinned, in order;"
            + " no blanks): how many bytes it has.");
        PlanningHouse x = at(1, 8);
        made(x, "a(b(.,.),b(.,.),b(.,.),b(.,.))");
        x.pin(0, 0, true);
        made(x, "b(.,.)");
        x.pin(0, 1, true);
        made(x, ".");
        x.pin(0, 0, false);
        made(x, "a(.,.,.,.)");
        made(Due.of("var abcdefgh in 3..3;"), "abcdefgh(.)");
        made(Due.of("var b in 3..3;var a2 in{4};"), "b(a2(.))");
        made(Due.of("var a in 0..19;aim m at 2:a;"), "a(" + ".,".repeat(19) + ".)");
        // none is feasible: any plan at hand will do
        made(of(Due.of("var a in 0..2;rule h at 0*1:a>2;"), 0), "a(.,.,.)");
        StringBuilder text = new StringBuilder();
        for (int i = 0; i < 12; i++) text.append("var v").append(i).append(i == 11 ? " in 0..1;" : " in 0..0;");
        made(Due.of(text.toString()), "v0(v1(v2(v3(v4(v5(v6(v7(v8(v9(v10(v11(.,.))))))))))))");
    }

    private static PlanningHouse typed(PlanningHouse x) {
        Due.type(x, "tape");
        return x;
    }

    private static void notProved() {
        Edge.of(56, "NONE, and the tape stays, when some feasible allowed plan is better");
        for (int a : new int[] {0, 3}) Edge.refused("prove", () -> typed(at(a, 7)), x -> x.prove(0), PlanningHouse.NONE);
        for (int level = 0; level < 3; level++) {
            String text = "var a in 0..1;" + (level == 0 ? "rule h at 0*1:a=0;" : "aim m at " + level + ":a;");
            Edge.refused("prove", () -> typed(of(Due.of(text), 1)), x -> x.prove(0), PlanningHouse.NONE);
            PlanningHouse x = of(Due.of(text), 1);
            x.pin(0, 0, true);
            Due.is("the better one is not allowed", x.prove(0), 1);
            x.pin(0, 0, false);
            x.put(0, 0, 0);
            Due.is("none is better", x.prove(0), 6);
        }
        // one that is better, but not feasible, does not matter
        PlanningHouse x = of(Due.of("var a in 0..1;rule h at 0*1:a=1;aim m at 1:a;"), 1);
        Due.is("prove", x.prove(0), 6);
    }

    /** ddd has 3 + 2 + 20 + 19 = 44 bytes, cccccc 8 + 20 * 44 + 19 = 907, bbbbbbbb 10 + 11 * 907 + 10 = 9997, and 2 * 9997 + 3 with the first name. */
    private static PlanningHouse longOne(String first) {
        return typed(Due.of("var " + first + " in 0..1;var bbbbbbbb in 0..10;var cccccc in 0..19;var ddd in 0..19;"));
    }

    private static void length() {
        Edge.of(56, "or it would have more than 20000 bytes");
        PlanningHouse x = longOne("aaa");
        Due.is("as many as there may be", x.prove(0), 20000);
        Due.is("the tape", x.cut(20000), 20000);
        Due.is("check", x.check(0), 0);
        Due.is("prove again", x.prove(0), 20000);
        Due.is("one byte less", longOne("aa").prove(0), 19999);
        for (String first : new String[] {"aaaa", "aaaaa", "aaaaaaaa"}) {
            Edge.refused("prove", () -> longOne(first), y -> y.prove(0), PlanningHouse.NONE);
        }
        Edge.refused("prove", () -> typed(Due.of("var a in 0..19;var b in 0..19;var c in 0..9;var d in 0..4;")), y -> y.prove(0), PlanningHouse.NONE);
        PlanningHouse y = longOne("aaaa");
        y.pin(0, 0, true);
        Due.is("without a pinned one", y.prove(0), 9997);
        y.pin(0, 0, false);
        y.pin(0, 1, true);
        Due.is("without another one", y.prove(0), 4 + 2 + 2 * 907 + 1);
        y.pin(0, 1, false);
        y.pin(0, 3, true);
        Due.is("without the last one", y.prove(0), 7 + 2 * (8 + 2 + 11 * (6 + 2 + 20 + 19) + 10));
    }
}
