/** Promises 6 to 8: texts that are problems, and the faults of those that are none. */
public final class ReadingTest {
    private static final String VARS = "fact f = 3; var a in 0..3; var b in {2, -1}; ";

    public static void main(String[] args) {
        problems();
        tokens();
        statements();
        names();
        numbers();
        limits();
        tests();
        lists();
        openOnes();
        work();
        Due.end();
    }

    private static void problems() {
        PlanningHouse x = new PlanningHouse();
        Due.is("fault() before any", x.fault(), 0);
        for (int p = 0; p < 4; p++) Due.is("problem()", Due.read(x, "var a in 0..1;"), p);
        Due.type(x, "nonsense");
        Due.is("a fifth", x.problem(), PlanningHouse.FULL);
        Due.is("fault() is the old one", x.fault(), 0);
        Due.same("the tape stays", Due.tape(x), "nonsense");
        Due.is("drop(4)", x.drop(4), false);
        Due.is("drop(-1)", x.drop(-1), false);
        Due.is("drop(1)", x.drop(1), true);
        Due.is("drop(1) again", x.drop(1), false);
        Due.is("count(1, 1)", x.count(1, 1), PlanningHouse.NONE);
        Due.is("a fault, and the number stays free", x.problem(), -1);
        Due.is("fault()", x.fault(), 2);
        Due.is("drop(3)", x.drop(3), true);
        Due.is("the least free one", Due.read(x, "var b in 5..5;"), 1);
        Due.is("a new fault() of none", x.fault(), 0);
        Due.is("range of the new one", x.range(1, 0, 0), 5);
        Due.is("pins are gone", x.pin(1, 0, true), false);
        x.drop(1);
        Due.is("again", Due.read(x, "var b in 5..6;"), 1);
        Due.is("pins are gone again", x.pin(1, 0, true), false);
    }

    private static void tokens() {
        Due.fault("@", 2);
        Due.fault("  % nothing@", 2);
        Due.fault("@$", 1);
        Due.fault("var a in 0..1; @\u00e9", 1);
        Due.fault("var @a12345678 in 0..1;", 1);
        Due.fault("var a in @00000..1;", 1);
        Due.fault("var a in 0..@12345;", 1);
        Due.fault("var a in 0 @_ 1;", 1);
        Due.fault("var a @\" in 0..1;", 1);
        Due.fault("var a in 0 @. .1;", 2);
        Due.fault("var a in 0 ..@. 1;", 2);
        Due.fault("var a @1 in 0..1;", 2);
        Due.fault("var @_", 1);
        Due.fine("var a1234567 in 0..1;");
        Due.fine("var\ta\rin\n0%; $\n..1%;;\n;% the end $");
        Due.fine("var a in 0001..0002;");
        Due.fine(VARS + "rule r at 0*1:a<-1;");
        Due.fault(VARS + "rule r at 0*1:a@->1;", 2);
        Due.fault("var a in 0..1;% remark \r var b in 0..1;\n@x", 2);
    }

    private static void statements() {
        Due.fault("@a", 2);
        Due.fault("@var1 a in 0..1;", 2);
        Due.fault("var a in 0..1@", 2);
        Due.fault("var a in 0..1 @var", 2);
        Due.fault("var a in 0..1; @;", 2);
        Due.fault("fact @;", 2);
        Due.fault("fact f @3;", 2);
        Due.fault("fact f = @f;", 2);
        Due.fault("fact f = -@-3;", 2);
        Due.fault("fact f = 3 @+ 1;", 2);
        Due.fault("var a @0..1;", 2);
        Due.fault("var a in @(0);", 2);
        Due.fault("var a in {@};", 2);
        Due.fault("var a in {1,@};", 2);
        Due.fault("var a in {1 @2};", 2);
        Due.fault("var a in {1 @.. 2};", 2);
        Due.fault("var a in 0 @, 1;", 2);
        Due.fault("var a in 0 ..@;", 2);
        Due.fault(VARS + "rule r @0*1: a = 1;", 2);
        Due.fault(VARS + "rule r at @-0*1: a = 1;", 2);
        Due.fault(VARS + "rule r at 0@: a = 1;", 2);
        Due.fault(VARS + "rule r at 0*1 @a = 1;", 2);
        Due.fault(VARS + "rule r at 0*1: @;", 2);
        Due.fault(VARS + "rule r at 0*1: a = 1 @)", 2);
        Due.fault(VARS + "aim m at 1@*1: a;", 2);
        Due.fault(VARS + "aim m at 1: a @= 1;", 2);
        Due.fault(VARS + "aim m at 1: @;", 2);
        Due.fine(VARS + "rule r at 0*1: a = 1; aim m at 1: a; fact g = -9999;");
        Due.fine("var a in {5};");
    }

    private static void names() {
        Due.fault("fact @all = 1;", 2);
        Due.fault("var @in in 0..1;", 2);
        Due.fault("fact f = 1; fact @f = 1;", 3);
        Due.fault("fact f = 1; var @f in 0..1;", 3);
        Due.fault("var a in 0..1; rule @a at 0*1: a = 1;", 3);
        Due.fault("var a in 0..1; rule r at 0*1: a = 1; aim @r at 1: a;", 3);
        Due.fault("var a in 0..1; aim m at 1: a; fact @m = 1;", 3);
        Due.fault(VARS + "rule r at 0*1: @r = 1;", 4);
        Due.fault(VARS + "rule r at 0*1: @A = 1;", 4);
        Due.fault(VARS + "rule r at 0*1: a = 1; rule s at 0*1: @r = 1;", 4);
        Due.fault(VARS + "aim m at 1: @m;", 4);
        Due.fault(VARS + "aim m at 1: a; aim n at 1: a + @m;", 4);
        Due.fault(VARS + "rule r at 0*1: all(@f);", 4);
        Due.fault(VARS + "rule r at 0*1: all(a, @c);", 4);
        Due.fault(VARS + "rule r at 0*1: all(@max);", 2);
        Due.fault(VARS + "rule r at 0*1: @in = 1;", 2);
        Due.fault(VARS + "rule r at 0*1: busy(1:(@f,1,1));", 4);
        Due.fault(VARS + "rule r at 0*1: apart((a,@f,1,1));", 4);
        Due.fault(VARS + "rule r at 0*1: lex(a:@f);", 4);
        Due.fault("rule r at 0*1: @a = 1; var a in 0..1;", 4);
        Due.fine(VARS + "rule A at 0*1: a = 1; rule max1 at 0*1: a = f;");
    }

    private static void numbers() {
        Due.fault("var a in @100..100;", 5);
        Due.fault("var a in 0..@100;", 5);
        Due.fault("var a in -@100..0;", 5);
        Due.fault("var a in 3..@2;", 5);
        Due.fault("var a in 0..-@1;", 5);
        Due.fault("var a in -1..-@2;", 5);
        Due.fault("var a in {1, 2, @1};", 5);
        Due.fault("var a in {0, -@0};", 5);
        Due.fault("var a in {1, @100};", 5);
        Due.fault(VARS + "rule r at @3*1: a = 1;", 5);
        Due.fault(VARS + "rule r at 0*@0: a = 1;", 5);
        Due.fault(VARS + "rule r at 0*@1001: a = 1;", 5);
        Due.fault(VARS + "aim m at @0: a;", 5);
        Due.fault(VARS + "aim m at @3: a;", 5);
        Due.fault(VARS + "rule r at 0*1: auto(a:(@10,1,1):1);", 5);
        Due.fault(VARS + "rule r at 0*1: auto(a:(1,1,@10):1);", 5);
        Due.fault(VARS + "rule r at 0*1: auto(a:(1,1,1):@10);", 5);
        Due.fine("var a in -99..-99; var b in 99..99; var c in {-1, 1, 0};");
        Due.fine("fact f = -9999; fact g = 9999; var a in 0..1;");
        Due.fine(VARS + "rule r at 2*1000: auto(a:(9,-9999,9):9); rule s at 00*01: row(a:(-9999),(9999));");
    }

    private static void limits() {
        StringBuilder facts = new StringBuilder("var v in 0..0; ");
        for (int i = 0; i < 16; i++) facts.append("fact f").append(i).append("=1;");
        Due.fine(facts.toString());
        Due.fault(facts + "fact @g = 1;", 6);
        Due.fault(facts + "fact @f3 = 1;", 3);
        StringBuilder vars = new StringBuilder();
        for (int i = 0; i < 12; i++) vars.append("var v").append(i).append(" in 0..0;");
        Due.fine(vars.toString());
        Due.fault(vars + "var @w in 0..0;", 6);
        StringBuilder hard = new StringBuilder("var v in 0..0; ");
        for (int i = 0; i < 12; i++) hard.append("rule h").append(i).append(" at 0*1: v=0;");
        Due.fine(hard.toString());
        Due.fault(hard + "rule r at @0*1: v = 0;", 6);
        Due.fault(hard + "rule r at @0*$", 6);
        for (int i = 0; i < 12; i++) hard.append("rule s").append(i).append(" at 1*1: v=0;");
        Due.fine(hard.toString());
        Due.fault(hard + "rule @r at 1*1: v = 0;", 6);
        StringBuilder aims = new StringBuilder("var v in 0..0; ");
        for (int i = 0; i < 6; i++) aims.append("aim m").append(i).append(" at 2: v;");
        Due.fine(aims.toString());
        Due.fault(aims + "aim @n at 1: v;", 6);
        Due.fine("var a in 0..19;");
        Due.fault("var @a in 0..20;", 6);
        Due.fault("var a in 0..20 @}", 2);
        Due.fault("var @a in -99..99; $", 6);
        Due.fault("var a in -99..@100;", 5);
        Due.fine("var a in 0..19; var b in 0..19; var c in 0..9; var d in 0..4;");
        Due.fault("var a in 0..19; var b in 0..19; var c in 0..9; var @d in 0..5;", 6);
        Due.fault("fact f = 1;@", 6);
        Due.fault("fact f = 1; rule r at 0*1: f = 1; % \n@", 6);
    }

    private static void tests() {
        String r = VARS + "rule r at 0*1: ";
        Due.fine(r + "a = 1 -> b = 1 | a # 2 & ~ b < 1 -> { a <= 2 -> a > 1 } & a >= 1;");
        Due.fine(r + "a + b - 1 * - 3 = abs(a) + min(a, b) + max(a) + pick(a : 1, -2) + [a = 1] * (b);");
        Due.fault(r + "a @;", 2);
        Due.fault(r + "a = 1 @= 1;", 2);
        Due.fault(r + "(a = @1);".replace("= @1", "@= 1"), 2);
        Due.fault(r + "{a}".replace("}", "@}"), 2);
        Due.fault(r + "{a = 1@]", 2);
        Due.fault(r + "[a = 1 @} = 1;", 2);
        Due.fault(r + "a = 1 & @& b = 1;", 2);
        Due.fault(r + "a = 1 | @-> b = 1;", 2);
        Due.fault(r + "a @! 1;", 2);
        Due.fault(r + "a @~ 1;", 2);
        Due.fault(r + "~ @= 1;", 2);
        Due.fault(r + "a + @+ b = 1;", 2);
        Due.fault(r + "a @b = 1;", 2);
        Due.fault(r + "abs @a = 1;", 2);
        Due.fault(r + "abs(a@, b) = 1;", 2);
        Due.fault(r + "min(@) = 1;", 2);
        Due.fault(r + "min(a, @) = 1;", 2);
        Due.fault(r + "pick(a @, 1) = 1;", 2);
        Due.fault(r + "pick(a : @a) = 1;", 2);
        Due.fault(r + "pick(a : 1 + @2) = 1;".replace("+ @", "@+ "), 2);
        Due.fault(r + "a = all@(a);".replace("= all@", "= @all"), 2);
        Due.fault(r + "all(a) @= 1;", 2);
        Due.fine(r + "a - - - b = -1;");
        Due.fine(r + "min(" + "a,".repeat(19) + "a) = 1;");
        Due.fault(r + "min(" + "a,".repeat(19) + "a@,a) = 1;", 2);
        Due.fine(r + "pick(a:" + "1,".repeat(19) + "1) = 1;");
        Due.fault(r + "pick(a:" + "1,".repeat(19) + "1@,1) = 1;", 2);
    }

    private static void lists() {
        String r = VARS + "rule r at 0*1: ";
        Due.fine(r + "all(" + "a,".repeat(11) + "a);");
        Due.fault(r + "all(" + "a,".repeat(11) + "a@,a);", 2);
        Due.fault(r + "all(@);", 2);
        Due.fault(r + "all(a@;", 2);
        Due.fault(r + "all @a;", 2);
        Due.fault(r + "ring(a @: a);", 2);
        Due.fine(r + "row(a,b:(1,2),(-1,-2));");
        Due.fault(r + "row(a,b:(1@));", 2);
        Due.fault(r + "row(a,b:(1,2@,3));", 2);
        Due.fault(r + "row(a,b@);", 2);
        Due.fault(r + "row(a,b:@);", 2);
        Due.fault(r + "row(a:(@a));", 2);
        Due.fine(r + "row(a:" + "(1),".repeat(39) + "(1));");
        Due.fault(r + "row(a:" + "(1),".repeat(39) + "(1)@,(1));", 2);
        Due.fine(r + "lex(a,b:b,a);");
        Due.fault(r + "lex(a,b:b@);", 2);
        Due.fault(r + "lex(a:b@,a);", 2);
        Due.fault(r + "lex(a@);", 2);
        Due.fine(r + "auto(a,b:(0,1,1),(1,-1,0):0,1,2,3,4,5,6,7,8,9);");
        Due.fault(r + "auto(a:(0,1,1):0,1,2,3,4,5,6,7,8,9@,0);", 2);
        Due.fault(r + "auto(a:(0,1,1)@);", 2);
        Due.fault(r + "auto(a:(@-0,1,1):0);", 2);
        Due.fault(r + "auto(a:(0,1@):0);", 2);
        Due.fault(r + "auto(a:(0,1,1):@);", 2);
        Due.fault(r + "auto(a:" + "(0,1,1),".repeat(39) + "(0,1,1)@,(0,1,1):0);", 2);
        Due.fine(r + "busy(0:(a,0,0),(b,9999,9999));");
        Due.fault(r + "busy(@-1:(a,0,0));", 2);
        Due.fault(r + "busy(1:(a,0@));", 2);
        Due.fault(r + "busy(1:(a,@-1,1));", 2);
        Due.fault(r + "busy(1:(@1,1,1));", 2);
        Due.fault(r + "busy(@(a,1,1));", 2);
        Due.fault(r + "busy(1:" + "(a,1,1),".repeat(39) + "(a,1,1)@,(a,1,1));", 2);
        Due.fine(r + "apart((a,b,0,9999),(a,a,1,1));");
        Due.fault(r + "apart((a,@1,1,1));", 2);
        Due.fault(r + "apart((a,b,1@));", 2);
        Due.fault(r + "apart(@);", 2);
        Due.fault(r + "apart(" + "(a,a,1,1),".repeat(39) + "(a,a,1,1)@,(a,a,1,1));", 2);
    }

    private static void openOnes() {
        String r = VARS + "rule r at 0*1: ";
        Due.fine(r + "(".repeat(12) + "a" + ")".repeat(12) + " = 1;");
        Due.fault(r + "(".repeat(12) + "@(a" + ")".repeat(13) + " = 1;", 7);
        Due.fault(r + "(".repeat(12) + "abs@(a" + ")".repeat(13) + " = 1;", 7);
        Due.fault(r + "(".repeat(12) + "min@(a" + ")".repeat(13) + " = 1;", 7);
        Due.fault(r + "(".repeat(12) + "pick@(a:1" + ")".repeat(13) + " = 1;", 7);
        Due.fault(r + "(".repeat(12) + "abs @a", 2);
        Due.fine(r + "~".repeat(12) + "a = 1;");
        Due.fault(r + "~".repeat(12) + "@~a = 1;", 7);
        Due.fault(r + "~".repeat(12) + "@-a = 1;", 7);
        Due.fault(r + "~".repeat(12) + "@[a = 1] = 1;", 7);
        Due.fault(r + "~".repeat(12) + "@{a = 1};", 7);
        Due.fine(r + "~".repeat(12) + "all(a) & ~".repeat(1) + "~".repeat(11) + "a = 1;");
        Due.fine(r + "a = " + "-".repeat(6) + "a * " + "- ".repeat(12) + "a;");
        Due.fault(r + "a = " + "- ".repeat(12) + "@- a;", 7);
        Due.fine(r + "a = 1 -> ".repeat(12) + "a = 1;");
        Due.fault(r + "a = 1 -> ".repeat(12) + "a = 1 @-> a = 1;", 7);
        Due.fine(r + "{a = 1 -> a = 2} & ".repeat(20) + "a = 1;");
        Due.fault(r + "a = 1 -> ".repeat(11) + "[ a = 1 @-> a = 1] = 1;", 7);
        Due.fine(r + "a = 1 -> ".repeat(10) + "[ a = 1 -> a = 1] = 1;");
        Due.fine(r + "[a - - 1 = 1] + ".repeat(30) + "a = 1;");
        Due.fault(r + "~{".repeat(6) + "@~a = 1;", 7);
        Due.fault("var @a12345678 in 0..1; " + "(", 1);
    }

    private static void work() {
        String big = "var a in 0..19; var b in 0..19; var c in 0..9; var d in 0..4;";
        // 28 tokens, 7 before the sum, 961 of it, 4 behind it: 1000, which times 20000 plans is just right
        String text = big + "rule r at 0*1:" + "a+".repeat(480) + "a";
        Due.fine(text + "=-1;");
        Due.fault(text + "=--1;@", 6);
        Due.fault(text + "=--1; % remark@", 6);
        Due.fault(text + "=--1; @$", 1);
    }
}
