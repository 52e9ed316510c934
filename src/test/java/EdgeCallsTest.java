import java.lang.reflect.InvocationTargetException;
import java.lang.reflect.Method;
import java.lang.reflect.Modifier;
import java.util.Arrays;
import java.util.List;
import java.util.function.Supplier;

/** The edges of calls that name what there is not, and of promises 1 to 5 and 9 to 24. */
public final class EdgeCallsTest {
    private static final int LEAST = Integer.MIN_VALUE;
    private static final int MOST = Integer.MAX_VALUE;
    private static final String THERE_IS_NOT = "What names a problem, var, fact, rule, aim, future, row that there is not"
        + " answers NONE (NO, false), if nothing else is told, and changes nothing.";

    public static void main(String[] args) {
        noProblem();
        noVar();
        noFactRuleAim();
        noFutureOrRow();
        noLevel();
        newObject();
        type();
        cut();
        spoil();
        tapeAt();
        count();
        find();
        letter();
        shown();
        range();
        rule();
        change();
        put();
        pin();
        weigh();
        planAtHand();
        usedAgain();
        Due.end();
    }

    // ---- what there is not

    private static Method method(String name) {
        for (Method m : PlanningHouse.class.getDeclaredMethods()) {
            if (m.getName().equals(name) && Modifier.isPublic(m.getModifiers())) return m;
        }
        throw new IllegalStateException("no call " + name);
    }

    private static long ask(PlanningHouse x, Method m, Object[] given) {
        try {
            Object answer = m.invoke(x, given);
            return answer instanceof Boolean ? Edge.bit((Boolean) answer) : ((Number) answer).longValue();
        } catch (IllegalAccessException | InvocationTargetException e) {
            throw new IllegalStateException(m.getName() + Arrays.toString(given), e);
        }
    }

    private static long none(Method m) {
        if (m.getReturnType() == long.class) return PlanningHouse.NO;
        if (m.getReturnType() == boolean.class) return 0;
        return m.getName().equals("check") ? PlanningHouse.FULL : PlanningHouse.NONE;
    }

    /** A call is refused, whatever of some numbers stands at a place; all other arguments are such as are taken. */
    private static void refused(Supplier<PlanningHouse> made, String name, int place, int[] numbers, Object... taken) {
        Method m = method(name);
        for (int number : numbers) {
            Object[] given = taken.clone();
            given[place] = number;
            Edge.refused(name + Arrays.toString(given), made, x -> ask(x, m, given), none(m));
        }
    }

    private static void refused(String name, int place, int[] numbers, Object... taken) {
        refused(Edge::house, name, place, numbers, taken);
        PlanningHouse x = Edge.house();
        Due.is(name + Arrays.toString(taken) + " is taken", ask(x, method(name), taken) != none(method(name)), true);
    }

    private static void noProblem() {
        Edge.of(Edge.TERMS, THERE_IS_NOT);
        int[] none = {-1, 1, 2, 3, 4, 5, 256, LEAST, MOST};
        refused("drop", 0, none, 0);
        refused("count", 0, none, 0, 1);
        refused(EdgeCallsTest::withName, "find", 0, none, 0);
        Due.is("find is taken", withName().find(0), 100);
        refused("letter", 0, none, 0, 0, 0, 0);
        refused("shown", 0, none, 0, 0, 0);
        refused("range", 0, none, 0, 0, 0);
        refused("rule", 0, none, 0, 0, 0);
        refused("fact", 0, none, 0, 0);
        refused("change", 0, none, 0, 0, 5);
        refused("value", 0, none, 0, 0);
        refused("put", 0, none, 0, 0, 3);
        refused("pin", 0, none, 0, 1, true);
        refused("weigh", 0, none, 0, 0, 9);
        refused("broken", 0, none, 0, 0);
        refused("aim", 0, none, 0, 0);
        refused("score", 0, none, 0, 0);
        refused("feasible", 0, none, 0);
        refused("reach", 0, none, 0);
        refused("isLeft", 0, none, 0, 0, 0);
        refused(EdgeCallsTest::withoutHope, "hopeless", 0, none, 0);
        Due.is("hopeless is taken", withoutHope().hopeless(0), 0);
        refused("solve", 0, none, 0);
        refused("best", 0, none, 0, 0);
        refused("bests", 0, none, 0);
        refused("bestAt", 0, none, 0, 0);
        refused("feasibles", 0, none, 0);
        refused("feasibleAt", 0, none, 0, 0);
        refused("has", 0, none, 0, 0, 0, true);
        refused("has", 0, none, 0, 0, 0, false);
        refused("choices", 0, none, 0, 0);
        refused("mend", 0, none, 0, 1);
        refused("front", 0, none, 0);
        refused("frontAt", 0, none, 0, 0, 0);
        refused("frontPlan", 0, none, 0, 0);
        refused("near", 0, none, 0, false);
        refused("near", 0, none, 0, true);
        refused("clash", 0, none, 0);
        refused("fewest", 0, none, 0);
        refused("relax", 0, none, 0);
        refused("without", 0, none, 0, 0, 0);
        refused("whyNot", 0, none, 0, 0, 0, 0);
        refused("because", 0, none, 0, 0, 3);
        refused("future", 0, none, 0, 1);
        refused("told", 0, none, 0, 0, 0, 5);
        refused("unfold", 0, none, 0);
        refused("robust", 0, none, 0);
        refused("expected", 0, none, 0, 0);
        refused("regret", 0, none, 0, 0);
        refused("search", 0, none, 0, 0, 0, 0, 9);
        refused("check", 0, none, 0);
        refused(EdgeCallsTest::solved, "prove", 0, none, 0);
        Due.is("prove is taken", solved().prove(0), 8);
        refused("save", 0, none, 0);
    }

    private static PlanningHouse withName() {
        PlanningHouse x = Edge.house();
        x.cut(0);
        Due.type(x, "a");
        return x;
    }

    private static PlanningHouse withoutHope() {
        PlanningHouse x = Edge.house();
        x.put(0, 0, 1);
        x.pin(0, 0, true);
        return x;
    }

    private static PlanningHouse solved() {
        PlanningHouse x = Due.of("var a in 0..2;");
        Due.type(x, "tape");
        return x;
    }

    private static void noVar() {
        Edge.of(Edge.TERMS, THERE_IS_NOT);
        int[] none = {-1, 2, 3, 11, 12, 13, 31, 32, LEAST, MOST};
        refused("range", 1, none, 0, 1, 0);
        refused("value", 1, none, 0, 1);
        refused("put", 1, none, 0, 1, 2);
        refused("pin", 1, none, 0, 1, true);
        refused("pin", 1, none, 0, 1, false);
        refused("weigh", 1, none, 0, 1, 9);
        refused("isLeft", 1, none, 0, 1, 2);
        refused("has", 1, none, 0, 1, 2, false);
        refused("has", 1, none, 0, 1, 2, true);
        refused("choices", 1, none, 0, 1);
        refused("whyNot", 1, none, 0, 1, 5, 0);
        refused("because", 1, none, 0, 0, 3);
    }

    private static void noFactRuleAim() {
        Edge.of(Edge.TERMS, THERE_IS_NOT);
        int[] none = {-1, 2, 3, 15, 16, 17, 31, 32, LEAST, MOST};
        refused("fact", 1, none, 0, 1);
        refused("change", 1, none, 0, 1, 5);
        refused("told", 2, none, 0, 1, 1, 5);
        int[] noRule = {-1, 3, 4, 23, 24, 25, 31, 32, 33, LEAST, MOST};
        refused("rule", 1, noRule, 0, 2, 0);
        refused("broken", 1, noRule, 0, 2);
        refused("without", 1, noRule, 0, 2, 0);
        int[] noAim = {-1, 2, 3, 5, 6, 7, 23, 24, LEAST, MOST};
        refused("aim", 1, noAim, 0, 1);
    }

    private static void noFutureOrRow() {
        Edge.of(Edge.TERMS, THERE_IS_NOT);
        refused("told", 1, new int[] {-1, 2, 3, 5, 6, 7, LEAST, MOST}, 0, 1, 1, 5);
        refused("load", 0, new int[] {-1, 1, 2, 99, 100, 101, LEAST, MOST}, 0);
        refused("byteAt", 0, new int[] {-1, Edge.house().size(), 19990, LEAST, MOST}, 0);
    }

    private static void noLevel() {
        int[] none = {-1, 3, 4, LEAST, MOST};
        Edge.of(23, "The score of the plan at hand at a level; NO.");
        refused("score", 1, none, 0, 2);
        Edge.of(29, "NO when there are none, or no such level.");
        refused("best", 1, none, 0, 2);
        Edge.of(44, "NO when none is feasible then, or there is no such rule or level.");
        refused("without", 2, none, 0, 1, 2);
        Edge.of(45, "NO when there is none, or no such level.");
        refused("whyNot", 3, none, 0, 0, 3, 2);
        Edge.of(51, "NO, and the board stays, without futures or such a level.");
        refused("expected", 1, none, 0, 2);
        Edge.of(52, "NO when in some future none is feasible, or there is no future, or no such level.");
        refused("regret", 1, none, 0, 2);
    }

    // ---- the tape

    private static void newObject() {
        Edge.of(1, "An empty tape, no problems, an empty store, nothing found yet; the board shows 0 / 1.");
        PlanningHouse x = new PlanningHouse();
        Due.is("tapeAt(0)", x.tapeAt(0), PlanningHouse.NONE);
        Due.is("cut(0)", x.cut(0), 0);
        Due.is("cut(1)", x.cut(1), PlanningHouse.NONE);
        for (int p = 0; p < 4; p++) {
            for (int what = 0; what < 9; what++) Due.is("count", x.count(p, what), PlanningHouse.NONE);
            Due.is("drop", x.drop(p), false);
        }
        Due.is("rows()", x.rows(), 0);
        Due.is("size()", x.size(), 0);
        Due.is("byteAt(0)", x.byteAt(0), PlanningHouse.NONE);
        Due.is("load(0)", x.load(0), PlanningHouse.NONE);
        Due.is("crash(0)", x.crash(0), 0);
        Due.is("fault()", x.fault(), 0);
        for (int what = 0; what < 3; what++) Due.is("searched", x.searched(what), PlanningHouse.NONE);
        Due.is("above()", x.above(), 0);
        Due.is("below()", x.below(), 1);
        Due.is("problem() of the empty tape", x.problem(), -1);
        Due.is("fault()", x.fault(), 2);
        Due.is("bring() of the empty tape", new PlanningHouse().bring(), PlanningHouse.NONE);
        Due.is("take()", new PlanningHouse().take(), 10);
        Due.is("check(0)", new PlanningHouse().check(0), PlanningHouse.FULL);
    }

    private static void type() {
        Edge.of(2, "The n lowest bytes of w, the highest of them first, come behind the tape: how many it has. NONE: n is not 1 .. 8");
        int[] bytes = {0xF1, 0x02, 0x83, 0x04, 0xFF, 0x00, 0x80, 0x7F};
        for (int n = 1; n <= 8; n++) {
            PlanningHouse x = new PlanningHouse();
            x.type('z', 1);
            Due.is("type", x.type(0xF1028304FF00807FL, n), n + 1);
            for (int i = 0; i < n; i++) Due.is("byte " + i + " of " + n, x.tapeAt(1 + i), bytes[8 - n + i]);
            Due.is("no more", x.tapeAt(n + 1), PlanningHouse.NONE);
        }
        for (int n : new int[] {0, -1, 9, 10, 256, LEAST, MOST}) {
            Edge.refused("type(1, " + n + ")", x -> x.type(1L, n), PlanningHouse.NONE);
            Edge.refused("type(1, " + n + ") on a full tape", () -> tapeOf(20000), x -> x.type(1L, n), PlanningHouse.NONE);
        }
        Edge.of(2, "FULL: there would be more than 20000.");
        for (int n = 1; n <= 8; n++) {
            int wide = n;
            PlanningHouse x = tapeOf(20000 - n);
            Due.is("the last ones", x.type(0x4142434445464748L, n), 20000);
            Due.is("the last one", x.tapeAt(19999), 0x48);
            Due.is("place 20000", x.tapeAt(20000), PlanningHouse.NONE);
            Edge.refused("one too many", () -> tapeOf(20001 - wide), y -> y.type(1L, wide), PlanningHouse.FULL);
            Edge.refused("on a full tape", () -> tapeOf(20000), y -> y.type(1L, wide), PlanningHouse.FULL);
        }
    }

    /** A tape of so many bytes, up to 20000. */
    private static PlanningHouse tapeOf(int n) {
        PlanningHouse x = new PlanningHouse();
        Due.read(x, "var aaa in 0..1;var bbbbbbbb in 0..10;var cccccc in 0..19;var ddd in 0..19;");
        Due.is("prove", x.prove(0), 20000);
        x.drop(0);
        Due.is("cut", x.cut(n), 20000);
        return x;
    }

    private static void cut() {
        Edge.of(3, "The tape keeps its first n bytes: how many it had. NONE: n is below 0 or more than it has.");
        for (int n = 0; n <= 4; n++) {
            PlanningHouse x = Edge.house();
            Due.is("cut(" + n + ")", x.cut(n), 4);
            Due.same("the tape", Due.tape(x), "tape".substring(0, n));
            if (n < 4) Due.is("more than it has now", x.cut(n + 1), PlanningHouse.NONE);
            Due.is("as many as it has", x.cut(n), n);
        }
        for (int n : new int[] {-1, 5, 20000, LEAST, MOST}) Edge.refused("cut(" + n + ")", x -> x.cut(n), PlanningHouse.NONE);
        Due.is("cut(20000)", tapeOf(20000).cut(20000), 20000);
        Due.is("cut(20000) of less", tapeOf(19999).cut(20000), PlanningHouse.NONE);
    }

    private static void spoil() {
        Edge.of(4, "Byte i of the tape is changed by an exclusive-or with a number (its lowest eight bits count): what it is then;"
            + " NONE when there is no byte i.");
        PlanningHouse x = Edge.house();
        Due.is("the first", x.spoil(0, 1), 't' ^ 1);
        Due.is("the last", x.spoil(3, 255), 'e' ^ 255);
        Due.is("it is that", x.tapeAt(3), 'e' ^ 255);
        Due.is("by 256", x.spoil(1, 256), 'a');
        Due.is("by -1", x.spoil(1, -1), 'a' ^ 255);
        Due.is("by the least", x.spoil(2, LEAST), 'p');
        Due.is("by the most", x.spoil(2, MOST), 'p' ^ 255);
        Due.is("by 0", x.spoil(2, 0), 'p' ^ 255);
        Due.is("the tape is as long", x.cut(4), 4);
        for (int i : new int[] {-1, 4, 5, 20000, LEAST, MOST}) Edge.refused("spoil(" + i + ", 1)", y -> y.spoil(i, 1), PlanningHouse.NONE);
        PlanningHouse y = Edge.house();
        y.cut(3);
        Due.is("a byte that was cut off", y.spoil(3, 1), PlanningHouse.NONE);
        y.type('x', 1);
        Due.is("the one that came in its place", y.tapeAt(3), 'x');
    }

    private static void tapeAt() {
        Edge.of(5, "Byte i of the tape; NONE when there is none.");
        PlanningHouse x = Edge.house();
        for (int i = 0; i < 4; i++) Due.is("tapeAt", x.tapeAt(i), "tape".charAt(i));
        for (int i : new int[] {-1, 4, 20000, LEAST, MOST}) Due.is("tapeAt(" + i + ")", x.tapeAt(i), PlanningHouse.NONE);
        x.cut(2);
        Due.is("cut off", x.tapeAt(2), PlanningHouse.NONE);
        Due.is("not cut off", x.tapeAt(1), 'a');
    }

    // ---- problems

    private static void count() {
        Edge.of(9, "what = 0 facts, 1 vars, 2 rules, 3 aims, 4 plans, 5 allowed plans, 6 hard rules, 7 futures, 8 bytes of its text; NONE for others.");
        PlanningHouse x = Edge.house();
        int[] want = {2, 2, 3, 2, 12, 4, 1, 2};
        for (int what = 0; what < 8; what++) Due.is("count(0, " + what + ")", x.count(0, what), want[what]);
        for (int what : new int[] {-1, 9, 10, LEAST, MOST}) Edge.refused("count", y -> y.count(0, what), PlanningHouse.NONE);
        PlanningHouse y = Due.of("  var a in 0..0;%");
        int[] small = {0, 1, 0, 0, 1, 1, 0, 0, 17};
        for (int what = 0; what < 9; what++) Due.is("count(0, " + what + ")", y.count(0, what), small[what]);
        y.pin(0, 0, true);
        Due.is("all pinned", y.count(0, 5), 1);
    }

    private static void found(PlanningHouse x, String tape, int want) {
        x.cut(0);
        Due.type(x, tape);
        Due.is("find of " + tape, x.find(0), want);
        Due.is("the tape stays", x.cut(tape.length()), tape.length());
    }

    private static void find() {
        Edge.of(10, "What the NAME on the tape (which stays; all of it must be one NAME that is no WORD, without blanks) means in a problem:"
            + " its number for a fact, 100 and that for a var, 200 for a rule, 300 for an aim; NONE.");
        StringBuilder text = new StringBuilder();
        for (int i = 0; i < 16; i++) text.append("fact f").append(i).append("=1;");
        for (int i = 0; i < 12; i++) text.append("var v").append(i).append(" in 0..0;");
        for (int i = 0; i < 24; i++) text.append("rule r").append(i).append(" at 1*1:v0=0;");
        for (int i = 0; i < 5; i++) text.append("aim m").append(i).append(" at 1:1;");
        PlanningHouse x = Due.of(text + "aim abcdefgh at 1:1;");
        String[] names = {"f0", "f15", "v0", "v11", "r0", "r23", "m0", "m4", "abcdefgh"};
        int[] want = {0, 15, 100, 111, 200, 223, 300, 304, 305};
        for (int i = 0; i < names.length; i++) found(x, names[i], want[i]);
        String[] none = {"", "f16", "f", "F0", "abcdefg", "abcdefghi", " f0", "f0 ", "\nf0", "f0\n", "f0%", "%\nf0", "f0 f0", "f0;", "f0f0",
            "0f", "0", ";", "var", "in", "all", "pick", "f\u00b0", "$"};
        for (String name : none) found(x, name, PlanningHouse.NONE);
        Due.is("fault() stays", x.fault(), 0);
    }

    private static void letter() {
        Edge.of(11, "Byte i of the NAME of fact (kind 0), var (1), rule (2), aim (3) k; NONE when there is none such.");
        PlanningHouse x = Due.of("fact f=1;fact fact1=1;var Z9 in 0..0;var abcdefgh in 0..0;rule r at 1*1:f=1;rule rr at 1*1:f=1;aim m at 1:1;aim mmm at 1:1;");
        String[][] names = {{"f", "fact1"}, {"Z9", "abcdefgh"}, {"r", "rr"}, {"m", "mmm"}};
        for (int kind = 0; kind < 4; kind++) {
            for (int k = 0; k < 2; k++) {
                String name = names[kind][k];
                for (int i = 0; i < name.length(); i++) Due.is("letter", x.letter(0, kind, k, i), name.charAt(i));
                for (int i : new int[] {-1, name.length(), 8, 9, LEAST, MOST}) Due.is("letter " + i + " of " + name, x.letter(0, kind, k, i), PlanningHouse.NONE);
            }
            for (int k : new int[] {-1, 2, 24, LEAST, MOST}) Due.is("name " + k, x.letter(0, kind, k, 0), PlanningHouse.NONE);
        }
        for (int kind : new int[] {-1, 4, LEAST, MOST}) Due.is("kind " + kind, x.letter(0, kind, 0, 0), PlanningHouse.NONE);
    }

    private static void shown() {
        Edge.of(12, "Of statement k of the text: all tokens as they stand there, one byte 32 between two, with its ; : byte i of that;"
            + " NONE when there is none such.");
        PlanningHouse x = Due.of("%;\nvar a in\t0..0003 ;rule r at 1*01:a<=1->~a>=-2;% x\n");
        String[] want = {"var a in 0 .. 0003 ;", "rule r at 1 * 01 : a <= 1 -> ~ a >= - 2 ;"};
        for (int k = 0; k < 2; k++) {
            for (int i = 0; i < want[k].length(); i++) Due.is("byte " + i, x.shown(0, k, i), want[k].charAt(i));
            for (int i : new int[] {-1, want[k].length(), want[k].length() + 1, LEAST, MOST}) {
                Due.is("byte " + i + " of " + want[k], x.shown(0, k, i), PlanningHouse.NONE);
            }
        }
        for (int k : new int[] {-1, 2, 3, LEAST, MOST}) Due.is("statement " + k, x.shown(0, k, 0), PlanningHouse.NONE);
    }

    private static void range() {
        Edge.of(13, "Value k of the range of var v; NO when there is none such.");
        PlanningHouse x = Due.of("var a in -99..-80;var b in{99};var c in{3,-1,2};");
        for (int k = 0; k < 20; k++) Due.is("range", x.range(0, 0, k), k - 99);
        Due.is("one value", x.range(0, 1, 0), 99);
        long[] want = {3, -1, 2};
        for (int k = 0; k < 3; k++) Due.is("as they stand there", x.range(0, 2, k), want[k]);
        int[] sizes = {20, 1, 3};
        for (int v = 0; v < 3; v++) {
            for (int k : new int[] {-1, sizes[v], sizes[v] + 1, 20, LEAST, MOST}) Due.is("value " + k, x.range(0, v, k), PlanningHouse.NO);
        }
    }

    private static void rule() {
        Edge.of(14, "Of rule r: what = 0 its level, 1 its weight, 2 the set of vars in it, as bits, 3 whether any plan at all, pinned or not,"
            + " breaks it (1, 0); NONE for others.");
        StringBuilder text = new StringBuilder("fact f=0;");
        for (int i = 0; i < 12; i++) text.append("var v").append(i).append(" in ").append(i == 11 ? "0..1;" : "0..0;");
        String[] tests = {"1=1", "v0=0", "v11=0", "f=0", "lex(v1,v2:v3,v4)", "busy(9:(v5,1,1),(v6,1,1))", "apart((v7,v8,1,1),(v9,v10,0,1))", "v0+v0=0&[v11=0]=1"};
        int[] sets = {0, 1, 2048, 0, 30, 96, 1920, 2049};
        int[] breaks = {0, 0, 1, 0, 0, 0, 0, 1};
        for (int r = 0; r < tests.length; r++) text.append("rule r").append(r).append(" at ").append(r % 3).append("*").append(r == 7 ? 1000 : r + 1).append(":").append(tests[r]).append(";");
        PlanningHouse x = Due.of(text.toString());
        x.pin(0, 11, true);
        for (int r = 0; r < tests.length; r++) {
            Due.is("level", x.rule(0, r, 0), r % 3);
            Due.is("weight", x.rule(0, r, 1), r == 7 ? 1000 : r + 1);
            Due.is("vars of " + tests[r], x.rule(0, r, 2), sets[r]);
            Due.is("breaks " + tests[r], x.rule(0, r, 3), breaks[r]);
            for (int what : new int[] {-1, 4, LEAST, MOST}) Due.is("what " + what, x.rule(0, r, what), PlanningHouse.NONE);
        }
        x.change(0, 0, 1);
        Due.is("by the facts as they are", x.rule(0, 3, 3), 1);
        x.change(0, 0, 0);
        Due.is("by the facts as they are again", x.rule(0, 3, 3), 0);
        PlanningHouse y = new PlanningHouse();
        StringBuilder many = new StringBuilder("var a in 0..1;");
        for (int r = 0; r < 24; r++) many.append("rule r").append(r).append(" at 2*1:a<=").append(r % 2).append(";");
        Due.read(y, many.toString());
        for (int r = 0; r < 24; r++) Due.is("rule " + r, y.rule(0, r, 3), 1 - r % 2);
    }

    // ---- plans, facts, pins

    private static void change() {
        Edge.of(16, "Fact f has another value from now on (-9999 .. 9999): true. False when it is none such.");
        for (int value : new int[] {-9999, 9999, 0}) {
            PlanningHouse x = Edge.house();
            Due.is("change", x.change(0, 1, value), true);
            Due.is("the fact", x.fact(0, 1), value);
            Due.is("the other", x.fact(0, 0), 2);
            Due.is("the aim goes by it", x.aim(0, 1), 5 + value);
            Due.is("best goes by it", x.best(0, 2), 3 * 5 + 5 + value);
        }
        for (int value : new int[] {-10000, 10000, LEAST, MOST}) Edge.refused("change to " + value, x -> Edge.bit(x.change(0, 1, value)), 0);
    }

    private static void put() {
        Edge.of(18, "Var v has a value of its range in the plan at hand (also a pinned one): true. False when it is none of it.");
        PlanningHouse x = Edge.house();
        for (int value : new int[] {2, -1, 5}) {
            Due.is("put of a pinned one", x.put(0, 1, value), true);
            Due.is("value", x.value(0, 1), value);
            Due.is("the other", x.value(0, 0), 2);
        }
        for (int value = 0; value < 4; value++) {
            Due.is("put", x.put(0, 0, value), true);
            Due.is("value", x.value(0, 0), value);
            Due.is("the other", x.value(0, 1), 5);
        }
        for (int value : new int[] {-2, 0, 1, 3, 4, 6, LEAST, MOST}) Edge.refused("put " + value, y -> Edge.bit(y.put(0, 1, value)), 0);
        for (int value : new int[] {-1, 4, 256, LEAST, MOST}) Edge.refused("put " + value, y -> Edge.bit(y.put(0, 0, value)), 0);
    }

    private static void pin() {
        Edge.of(19, "Var v is pinned, or not any more: whether it was.");
        StringBuilder text = new StringBuilder();
        for (int i = 0; i < 12; i++) text.append("var v").append(i).append(" in 0..1;");
        PlanningHouse x = Due.of(text.toString());
        for (int v : new int[] {0, 5, 11}) {
            Due.is("pin", x.pin(0, v, true), false);
            Due.is("allowed", x.count(0, 5), 2048);
            Due.is("pin again", x.pin(0, v, true), true);
            Due.is("no more", x.pin(0, v, false), true);
            Due.is("no more again", x.pin(0, v, false), false);
            Due.is("allowed", x.count(0, 5), 4096);
        }
        for (int v = 0; v < 12; v++) {
            x.pin(0, v, true);
            Due.is("allowed", x.count(0, 5), 2048 >> v);
        }
    }

    private static void weigh() {
        Edge.of(20, "The COST of var v is such a one (0 .. 1000): what it was. NONE when it is none such.");
        PlanningHouse x = Edge.house();
        Due.is("weigh", x.weigh(0, 0, 0), 7);
        Due.is("weigh", x.weigh(0, 0, 1000), 0);
        Due.is("weigh", x.weigh(0, 0, 1), 1000);
        Due.is("the other", x.weigh(0, 1, 2), 1);
        for (int cost : new int[] {-1, 1001, LEAST, MOST}) Edge.refused("weigh " + cost, y -> y.weigh(0, 0, cost), PlanningHouse.NONE);
    }

    private static void planAtHand() {
        Edge.of(15, "The value of fact f; NO.");
        Edge.of(17, "The value of var v in the plan at hand; NO.");
        Edge.of(21, "By what the plan at hand breaks rule r; NONE.");
        Edge.of(22, "What aim a is in the plan at hand; NO.");
        Edge.of(24, "Whether the plan at hand is feasible.");
        PlanningHouse x = Edge.house();
        List<Long> got = List.of(x.fact(0, 0), x.fact(0, 1), x.value(0, 0), x.value(0, 1), (long) x.broken(0, 0), (long) x.broken(0, 1),
            (long) x.broken(0, 2), x.aim(0, 0), x.aim(0, 1), x.score(0, 0), x.score(0, 1), x.score(0, 2), Edge.bit(x.feasible(0)));
        Due.same("all of it", got.toString(), "[2, 4, 2, 5, 0, 0, 3, 2, 9, 0, 2, 18, 1]");
        x.put(0, 0, 1);
        Due.is("the hard rule is broken", x.broken(0, 0), 1);
        Due.is("not feasible", x.feasible(0), false);
        x.put(0, 0, 3);
        Due.is("a soft one is broken", x.broken(0, 1), 1);
        Due.is("feasible", x.feasible(0), true);
    }

    /** Nothing of a problem that is gone is left in the next one of its number, whether that is read or loaded. */
    private static void usedAgain() {
        Edge.of(8, "The problem is gone, and its number is free.");
        String[] texts = {"var a in 0..1;", "fact f=1;var a in 0..1;var b in 0..1;rule r at 1*2:a=b;rule h at 0*1:b=1;aim m at 2:-a;"};
        for (String text : texts) {
            PlanningHouse stored = Due.of(text);
            String fresh = lookedAt(Due.of(text));
            PlanningHouse x = Edge.used();
            Due.is("read", Due.read(x, text), 0);
            Due.same("all that was read", lookedAt(x), fresh);
            PlanningHouse y = Edge.used();
            stored.save(0);
            stored.take();
            Due.type(y, Due.tape(stored));
            Due.is("bring", y.bring(), 1);
            Due.is("load", y.load(0), 0);
            Due.same("all that was loaded", lookedAt(y), fresh);
            PlanningHouse z = Edge.used();
            Due.is("a fault", Due.read(z, text + "fact g=1;rule x at 0*1:all(a)&~~~~~{(1=1};"), -1 - text.length() - 38);
            Due.is("read", Due.read(z, text), 0);
            Due.same("all that was read", lookedAt(z), fresh);
        }
    }

    /** All that a problem 0 of few values tells. */
    private static String lookedAt(PlanningHouse x) {
        StringBuilder told = new StringBuilder();
        for (int what = 0; what < 9; what++) told.append(x.count(0, what)).append(' ');
        for (int kind = 0; kind < 4; kind++) {
            for (int k = 0; k < 4; k++) told.append(x.letter(0, kind, k, 0)).append(' ').append(x.letter(0, kind, k, 1)).append(' ');
        }
        for (int i = 0; i < 3; i++) {
            told.append(x.fact(0, i)).append(' ').append(x.value(0, i)).append(' ').append(x.aim(0, i)).append(' ').append(x.score(0, i)).append(' ');
            for (int what = 0; what < 4; what++) told.append(x.rule(0, i, what)).append(' ');
            for (int k = 0; k < 3; k++) told.append(x.range(0, i, k)).append(' ').append(x.isLeft(0, i, k)).append(' ');
            told.append(x.broken(0, i)).append(' ').append(x.best(0, i)).append(' ').append(x.choices(0, i)).append(' ');
            told.append(x.frontAt(0, i, 0)).append(' ').append(x.without(0, i, 1)).append(' ').append(x.whyNot(0, 0, 1, i)).append(' ');
        }
        told.append(x.feasible(0)).append(x.reach(0)).append(' ').append(x.hopeless(0)).append(' ').append(x.bests(0)).append(' ');
        told.append(x.feasibles(0)).append(' ').append(x.front(0)).append(' ').append(x.clash(0)).append(' ').append(x.fewest(0)).append(' ');
        told.append(x.relax(0)).append(' ').append(x.because(0, 0, 1)).append(' ').append(x.robust(0)).append(' ').append(x.expected(0, 1)).append(' ');
        x.cut(0);
        Due.type(x, "<");
        told.append(x.check(0)).append(' ').append(x.solve(0)).append(' ').append(x.check(0)).append(' ').append(x.prove(0)).append(' ');
        x.future(0, 3);
        for (int level = 0; level < 3; level++) told.append(x.expected(0, level)).append(' ').append(x.regret(0, level)).append(' ');
        told.append(x.near(0, true)).append(' ').append(x.search(0, 2, 2, 5, 20)).append(' ').append(x.searched(0)).append(' ');
        for (int v = 0; v < 3; v++) told.append(x.weigh(0, v, 1)).append(' ').append(x.pin(0, v, true)).append(' ').append(x.value(0, v)).append(' ');
        return told.toString();
    }
}
