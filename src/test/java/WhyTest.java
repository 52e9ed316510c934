/** Promises 41 to 46: rules that clash or cost, and choices that are not taken. */
public final class WhyTest {
    public static void main(String[] args) {
        clashes();
        fewestOfMore();
        relaxing();
        noClash();
        pinned();
        without();
        whyNot();
        because();
        wrong();
        Due.end();
    }

    /** Rules 0, 2 and 3 clash, and so do 1 and 4; 5 is soft. */
    private static void clashes() {
        PlanningHouse x = Due.of("var a in 0..5; var b in 0..5; rule r at 0*1: a > b; rule s at 0*1: a > 3; rule t at 0*9: b >= 2;"
            + "rule u at 0*1: a + b <= 4; rule v at 0*1: a <= 3; rule w at 1*1: a = 9;");
        Due.is("clash", x.clash(0), 0b10010);
        Due.is("fewest", x.fewest(0), 0b10010);
        // one of 0, 2, 3 and one of 1, 4 must go: 0 and 1 are as good as any other cheap ones, and the least number
        Due.is("relax", x.relax(0), 0b00011);
        Due.planIs(x, 0, "0 0");
    }

    private static void fewestOfMore() {
        PlanningHouse x = Due.of("var a in 0..9; rule q at 1*1: a = 1; rule r at 0*1: a >= 5 | a = 1; rule s at 0*2: a <= 4;"
            + "rule t at 0*1: a # 1; rule u at 0*1: a > 8; rule v at 0*1: a # 9;");
        // all in order: r may go, s may go, t may go: u and v clash; by number s and u are less than u and v
        Due.is("clash", x.clash(0), 0b110000);
        Due.is("fewest", x.fewest(0), 0b010100);
        Due.is("relax", x.relax(0), 0b010010);
        PlanningHouse y = Due.of("var a in 0..2; rule r at 0*1: a > 0; rule s at 0*1: a > 2; rule t at 0*1: a > 3;");
        Due.is("one alone", y.fewest(0), 0b010);
        Due.is("the last one", y.clash(0), 0b100);
        Due.is("both must go", y.relax(0), 0b110);
    }

    private static void relaxing() {
        PlanningHouse x = Due.of("var a in 0..9; rule r at 0*5: a > 6; rule s at 0*3: a < 4; rule t at 0*2: a < 6; rule u at 0*1: a = 5;");
        // r goes and u: 6; s, t and u: 6; r and s: 8: of the first two the least number
        Due.is("relax", x.relax(0), 0b1001);
        PlanningHouse y = Due.of("var a in 0..9; rule r at 0*7: a > 6; rule s at 0*3: a < 4; rule t at 0*2: a < 6;");
        Due.is("relax", y.relax(0), 0b110);
    }

    private static void noClash() {
        PlanningHouse x = Due.of("var a in 0..3; rule r at 0*1: a > 1; rule s at 1*1: a = 0;");
        Due.is("clash", x.clash(0), 0);
        Due.is("fewest", x.fewest(0), 0);
        Due.is("relax", x.relax(0), 0);
        PlanningHouse y = Due.of("var a in 0..3;");
        Due.is("clash of none", y.clash(0), 0);
        Due.is("fewest of none", y.fewest(0), 0);
        Due.is("relax of none", y.relax(0), 0);
    }

    private static void pinned() {
        PlanningHouse x = Due.of("fact f = 1; var a in 0..3; var b in 0..3; rule r at 0*1: a > f; rule s at 0*1: b >= 0;");
        x.pin(0, 0, true);
        Due.is("clash", x.clash(0), 1);
        Due.is("fewest", x.fewest(0), 1);
        Due.is("relax", x.relax(0), 1);
        x.change(0, 0, -1);
        Due.is("clash", x.clash(0), 0);
        x.change(0, 0, 3);
        x.pin(0, 0, false);
        Due.is("clash by facts", x.clash(0), 1);
    }

    private static void without() {
        PlanningHouse x = Due.of("var a in 0..5; rule r at 0*1: a >= 3; rule s at 0*1: a # 3; rule t at 1*4: a <= 1; rule u at 2*1: a > 2; aim m at 2: a;");
        // best is 4: level 1 4 * 3, level 2 4
        Due.is("level 1", x.best(0, 1), 12);
        Due.is("without r, 1", x.without(0, 0, 1), 0);
        Due.is("without r, 2", x.without(0, 0, 2), 3);
        Due.is("without s, 1", x.without(0, 1, 1), 8);
        Due.is("without s, 2", x.without(0, 1, 2), 3);
        Due.is("without t, 1", x.without(0, 2, 1), 0);
        Due.is("without t, 2", x.without(0, 2, 2), 4);
        Due.is("without u, 0", x.without(0, 3, 0), 0);
        Due.is("without u, 2", x.without(0, 3, 2), 4);
        Due.is("no rule", x.without(0, 4, 0), PlanningHouse.NO);
        Due.is("no rule", x.without(0, -1, 0), PlanningHouse.NO);
        Due.is("no level", x.without(0, 0, 3), PlanningHouse.NO);
        Due.is("no level", x.without(0, 0, -1), PlanningHouse.NO);
        Due.planIs(x, 0, "0");
        x.pin(0, 0, true);
        Due.is("without r, with a pin", x.without(0, 0, 2), 3);
        Due.is("without s, with a pin", x.without(0, 1, 2), PlanningHouse.NO);
    }

    private static void whyNot() {
        PlanningHouse x = Due.of("var a in 0..3; var b in 0..3; rule h at 0*1: a + b >= 3; aim m at 1: a + 2 * b; aim n at 2: a * b;");
        Due.is("a 1, level 1", x.whyNot(0, 0, 1, 1), 5);
        Due.is("a 1, level 2", x.whyNot(0, 0, 1, 2), 2);
        Due.is("a 1, level 0", x.whyNot(0, 0, 1, 0), 0);
        Due.is("b 3, level 1", x.whyNot(0, 1, 3, 1), 6);
        Due.is("no value", x.whyNot(0, 0, 4, 1), PlanningHouse.NO);
        Due.is("no level", x.whyNot(0, 0, 1, 3), PlanningHouse.NO);
        Due.is("no level", x.whyNot(0, 0, 1, -1), PlanningHouse.NO);
        Due.is("no var", x.whyNot(0, 2, 1, 1), PlanningHouse.NO);
        Due.is("no var", x.whyNot(0, -1, 1, 1), PlanningHouse.NO);
        x.pin(0, 1, true);
        Due.is("none is feasible", x.whyNot(0, 0, 1, 1), PlanningHouse.NO);
        Due.is("pinned to another", x.whyNot(0, 1, 1, 1), PlanningHouse.NO);
        Due.is("pinned to this", x.whyNot(0, 1, 0, 1), 3);
    }

    private static void because() {
        PlanningHouse x = Due.of("var a in 0..3; rule h at 0*1: a # 2; rule r at 2*1: a = 9; rule s at 1*1: a <= 0; rule t at 2*9: a <= 0;");
        // the first BEST plan is 0; 1 and 3 break r by less, s by more
        Due.is("because 1", x.because(0, 0, 1), 2);
        Due.is("because 3", x.because(0, 0, 3), 2);
        Due.is("because 0", x.because(0, 0, 0), PlanningHouse.NONE);
        Due.is("because of 2, which is not feasible", x.because(0, 0, 2), PlanningHouse.NONE);
        Due.is("no value", x.because(0, 0, 4), PlanningHouse.NONE);
        Due.is("no var", x.because(0, 1, 0), PlanningHouse.NONE);
        Due.is("no var", x.because(0, -1, 0), PlanningHouse.NONE);
        PlanningHouse y = Due.of("var a in 0..3; aim m at 1: a; rule r at 2*1: a = 0;");
        Due.is("by an aim and a rule", y.because(0, 0, 2), 0);
        PlanningHouse z = Due.of("var a in 0..3; aim m at 1: a; rule r at 2*1: a = 9;");
        Due.is("by an aim alone", z.because(0, 0, 2), PlanningHouse.NONE);
    }

    private static void wrong() {
        PlanningHouse x = new PlanningHouse();
        Due.is("clash", x.clash(0), PlanningHouse.NONE);
        Due.is("fewest", x.fewest(0), PlanningHouse.NONE);
        Due.is("relax", x.relax(0), PlanningHouse.NONE);
        Due.is("without", x.without(0, 0, 0), PlanningHouse.NO);
        Due.is("whyNot", x.whyNot(0, 0, 0, 0), PlanningHouse.NO);
        Due.is("because", x.because(0, 0, 0), PlanningHouse.NONE);
    }
}
