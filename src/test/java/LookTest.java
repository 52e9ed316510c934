/** Promises 9 to 14: what a problem is made of. */
public final class LookTest {
    private static final String TEXT =
        "fact cap = 3;fact low=-0007; var alpha in -1 .. 2; % a remark\n"
        + "var b in {5,-9 , 0}; rule R1 at 0*12: alpha + [all(b)] <= cap; var c in 4..4;"
        + "rule r2 at 2*1000 : cap >= 0; rule r3 at 0*1: lex(b:c) & cap = 3; aim goal at 1: b * c;";

    public static void main(String[] args) {
        PlanningHouse x = Due.of(TEXT);
        counts(x);
        finds(x);
        letters(x);
        statements(x);
        ranges(x);
        rules(x);
        Due.end();
    }

    private static void counts(PlanningHouse x) {
        int[] want = {2, 3, 3, 1, 12, 12, 2, 0, TEXT.length()};
        for (int what = 0; what < want.length; what++) Due.is("count(0, " + what + ")", x.count(0, what), want[what]);
        Due.is("count(0, 9)", x.count(0, 9), PlanningHouse.NONE);
        Due.is("count(0, -1)", x.count(0, -1), PlanningHouse.NONE);
        Due.is("count(1, 0)", x.count(1, 0), PlanningHouse.NONE);
        Due.is("count(-1, 0)", x.count(-1, 0), PlanningHouse.NONE);
        x.pin(0, 1, true);
        Due.is("allowed plans", x.count(0, 5), 4);
        x.pin(0, 0, true);
        Due.is("allowed plans", x.count(0, 5), 1);
        Due.is("plans", x.count(0, 4), 12);
        x.pin(0, 0, false);
        x.pin(0, 1, false);
        x.future(0, 5);
        Due.is("futures", x.count(0, 7), 1);
    }

    private static void find(PlanningHouse x, String tape, int want) {
        x.cut(0);
        Due.type(x, tape);
        Due.is("find of " + tape, x.find(0), want);
        Due.same("the tape stays", Due.tape(x), tape);
    }

    private static void finds(PlanningHouse x) {
        find(x, "cap", 0);
        find(x, "low", 1);
        find(x, "alpha", 100);
        find(x, "c", 102);
        find(x, "R1", 200);
        find(x, "r3", 202);
        find(x, "goal", 300);
        find(x, "r1", PlanningHouse.NONE);
        find(x, "all", PlanningHouse.NONE);
        find(x, "", PlanningHouse.NONE);
        find(x, " cap", PlanningHouse.NONE);
        find(x, "cap ", PlanningHouse.NONE);
        find(x, "cap;", PlanningHouse.NONE);
        find(x, "cap%", PlanningHouse.NONE);
        find(x, "alph", PlanningHouse.NONE);
        find(x, "alpha1234", PlanningHouse.NONE);
        find(x, "3", PlanningHouse.NONE);
        find(x, "\u00e9", PlanningHouse.NONE);
        x.cut(0);
        Due.type(x, "cap");
        Due.is("find(1)", x.find(1), PlanningHouse.NONE);
        Due.is("fault() stays", x.fault(), 0);
        x.cut(0);
    }

    private static void letters(PlanningHouse x) {
        Due.is("c of cap", x.letter(0, 0, 0, 0), 'c');
        Due.is("p of cap", x.letter(0, 0, 0, 2), 'p');
        Due.is("behind cap", x.letter(0, 0, 0, 3), PlanningHouse.NONE);
        Due.is("before cap", x.letter(0, 0, 0, -1), PlanningHouse.NONE);
        Due.is("a of alpha", x.letter(0, 1, 0, 4), 'a');
        Due.is("R of R1", x.letter(0, 2, 0, 0), 'R');
        Due.is("1 of R1", x.letter(0, 2, 0, 1), '1');
        Due.is("l of goal", x.letter(0, 3, 0, 3), 'l');
        Due.is("aim 1", x.letter(0, 3, 1, 0), PlanningHouse.NONE);
        Due.is("kind 4", x.letter(0, 4, 0, 0), PlanningHouse.NONE);
        Due.is("kind -1", x.letter(0, -1, 0, 0), PlanningHouse.NONE);
        Due.is("fact -1", x.letter(0, 0, -1, 0), PlanningHouse.NONE);
        Due.is("fact 2", x.letter(0, 0, 2, 0), PlanningHouse.NONE);
        Due.is("problem 1", x.letter(1, 0, 0, 0), PlanningHouse.NONE);
        PlanningHouse y = Due.of("var abcdefgh in 0..0;");
        Due.is("the eighth", y.letter(0, 1, 0, 7), 'h');
        Due.is("the first", y.letter(0, 1, 0, 0), 'a');
        Due.is("a ninth", y.letter(0, 1, 0, 8), PlanningHouse.NONE);
    }

    private static String shown(PlanningHouse x, int k) {
        StringBuilder told = new StringBuilder();
        for (int b = x.shown(0, k, 0); b >= 0; b = x.shown(0, k, told.length())) told.append((char) b);
        return told.toString();
    }

    private static void statements(PlanningHouse x) {
        Due.same("statement 0", shown(x, 0), "fact cap = 3 ;");
        Due.same("statement 1", shown(x, 1), "fact low = - 0007 ;");
        Due.same("statement 2", shown(x, 2), "var alpha in - 1 .. 2 ;");
        Due.same("statement 3", shown(x, 3), "var b in { 5 , - 9 , 0 } ;");
        Due.same("statement 4", shown(x, 4), "rule R1 at 0 * 12 : alpha + [ all ( b ) ] <= cap ;");
        Due.same("statement 8", shown(x, 8), "aim goal at 1 : b * c ;");
        Due.same("statement 9", shown(x, 9), "");
        Due.is("statement -1", x.shown(0, -1, 0), PlanningHouse.NONE);
        Due.is("byte -1", x.shown(0, 0, -1), PlanningHouse.NONE);
        Due.is("problem 2", x.shown(2, 0, 0), PlanningHouse.NONE);
        Due.is("far off", x.shown(0, 0, Integer.MAX_VALUE), PlanningHouse.NONE);
    }

    private static void ranges(PlanningHouse x) {
        long[][] want = {{-1, 0, 1, 2}, {5, -9, 0}, {4}};
        for (int v = 0; v < 3; v++) {
            for (int k = 0; k < want[v].length; k++) Due.is("range", x.range(0, v, k), want[v][k]);
            Due.is("range behind", x.range(0, v, want[v].length), PlanningHouse.NO);
            Due.is("range before", x.range(0, v, -1), PlanningHouse.NO);
        }
        Due.is("var 3", x.range(0, 3, 0), PlanningHouse.NO);
        Due.is("var -1", x.range(0, -1, 0), PlanningHouse.NO);
        Due.is("problem 1", x.range(1, 0, 0), PlanningHouse.NO);
    }

    private static void rules(PlanningHouse x) {
        int[][] want = {{0, 12, 3, 0}, {2, 1000, 0, 0}, {0, 1, 6, 1}};
        for (int r = 0; r < 3; r++) {
            for (int what = 0; what < 4; what++) Due.is("rule " + r + " " + what, x.rule(0, r, what), want[r][what]);
            Due.is("what 4", x.rule(0, r, 4), PlanningHouse.NONE);
            Due.is("what -1", x.rule(0, r, -1), PlanningHouse.NONE);
        }
        Due.is("rule 3", x.rule(0, 3, 0), PlanningHouse.NONE);
        Due.is("rule -1", x.rule(0, -1, 0), PlanningHouse.NONE);
        Due.is("problem 1", x.rule(1, 0, 0), PlanningHouse.NONE);
        x.change(0, 0, -1);
        Due.is("rule 1 by other facts", x.rule(0, 1, 3), 1);
        Due.is("rule 0 by other facts", x.rule(0, 0, 3), 1);
        x.change(0, 0, 3);
        x.put(0, 1, 0);
        x.pin(0, 1, true);
        Due.is("pins do not matter", x.rule(0, 2, 3), 1);
        x.pin(0, 1, false);
    }
}
