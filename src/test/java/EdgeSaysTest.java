/** The edges of what sums and tests say, and of scores: the chapter WHAT THEY SAY. */
public final class EdgeSaysTest {
    private static final String VARS = "fact f=9999;fact g=1000;var a in{3,0};var b in{-2,0};";
    /** Twelve vars with the values 0 to 11, each of which may have all others. */
    private static final String LETTERS = "abcdefghijkl";

    public static void main(String[] args) {
        held();
        picked();
        ofTwenty();
        brackets();
        comparisons();
        together();
        otherTests();
        waiting();
        all();
        row();
        lex();
        ring();
        auto();
        busy();
        apart();
        scores();
        feasible();
        firstPlans();
        Due.end();
    }

    private static void sum(String sum, long want) {
        PlanningHouse x = Due.of(VARS + "aim m at 2:" + sum + ";");
        Due.is("aim " + sum, x.aim(0, 0), want);
        Due.is("score of " + sum, x.score(0, 2), want);
    }

    private static void test(String test, long want) {
        PlanningHouse x = Due.of(VARS + "rule r at 1*2:" + test + ";");
        Due.is("broken by " + test, x.broken(0, 0), want);
        Due.is("score of " + test, x.score(0, 1), 2 * want);
        Due.is("any plan breaks " + test, x.rule(0, 0, 3) >= (want > 0 ? 1 : 0), true);
    }

    private static void held() {
        Edge.of(Edge.TERMS, "each result of + - * and of - before a FACTOR, and of abs, is HELD to -1000000 .. 1000000");
        sum("999*1001", 999999);
        sum("g*g", 1000000);
        sum("1001*g", 1000000);
        sum("-999*1001", -999999);
        sum("-g*g", -1000000);
        sum("-1001*g", -1000000);
        sum("f*f*f", 1000000);
        sum("f*f*-f", -1000000);
        sum("g*g*(g*g)", 1000000);
        sum("g*g*-(g*g)", -1000000);
        sum("g*g-1", 999999);
        sum("g*g+1-1", 999999);
        sum("g*g-1+1", 1000000);
        sum("999*1001+1", 1000000);
        sum("999*1001+2", 1000000);
        sum("999*1001+2-2", 999998);
        sum("g*g+(g*g)", 1000000);
        sum("-(g*g)+1", -999999);
        sum("-(g*g)-1+1", -999999);
        sum("-(g*g)+1-1", -1000000);
        sum("-(g*g)-(g*g)", -1000000);
        sum("g*g-(-(g*g))-1", 999999);
        sum("-(-(g*g))", 1000000);
        sum("-(g*g)", -1000000);
        sum("abs(-(g*g))", 1000000);
        sum("abs(g*g)", 1000000);
        sum("abs(1-g*g)", 999999);
        sum("abs(0)", 0);
        sum("max(g*g,-(g*g))-min(g*g,-(g*g))", 1000000);
    }

    private static void picked() {
        Edge.of(Edge.TERMS, "pick(s : ..) is the INT at place s, from 0, 0 when there is none");
        sum("pick(0:7)", 7);
        sum("pick(1:7)", 0);
        sum("pick(-1:7)", 0);
        sum("pick(-0:7,8)", 7);
        sum("pick(1:7,-9999)", -9999);
        sum("pick(2:7,8)", 0);
        sum("pick(g*g:7,8)", 0);
        sum("pick(-(g*g):7,8)", 0);
        String twenty = "1,2,3,4,5,6,7,8,9,10,11,12,13,14,15,16,17,18,19,9999";
        sum("pick(18:" + twenty + ")", 19);
        sum("pick(19:" + twenty + ")", 9999);
        sum("pick(20:" + twenty + ")", 0);
        sum("pick(a:" + twenty + ")*100+pick(b+2:" + twenty + ")", 401);
    }

    private static void ofTwenty() {
        Edge.of(Edge.TERMS, "SUMS and INTS: one to twenty with , between.");
        sum("min(5)", 5);
        sum("max(-5)", -5);
        sum("min(" + "5,".repeat(19) + "4)", 4);
        sum("min(4," + "5,".repeat(18) + "5)", 4);
        sum("max(" + "5,".repeat(19) + "6)", 6);
        sum("max(6," + "5,".repeat(18) + "5)", 6);
        sum("max(-(g*g),-(g*g))", -1000000);
    }

    private static void brackets() {
        Edge.of(Edge.TERMS, "[ TEST ] is 1 if the TEST is not broken, else 0.");
        sum("[a=3]", 1);
        sum("[a=4]", 0);
        sum("[f*f=-(f*f)]", 0);
        sum("[~a=3]", 0);
        sum("[a=3]+[a=3]*10", 11);
        test("[a=3]=1", 0);
        test("[a=2]=1", 1);
    }

    private static void comparisons() {
        Edge.of(Edge.TERMS, "a = b by |a - b|; a # b by 1 if they are the same; a <= b by a - b, if that is above 0;"
            + " a < b by a - b + 1, if that is; > and >= likewise, turned round.");
        for (int a = -2; a <= 2; a++) {
            for (int b = -2; b <= 2; b++) {
                test(a + "=" + b, Math.abs(a - b));
                test(a + "#" + b, a == b ? 1 : 0);
                test(a + "<=" + b, Math.max(0, a - b));
                test(a + "<" + b, Math.max(0, a - b + 1));
                test(a + ">=" + b, Math.max(0, b - a));
                test(a + ">" + b, Math.max(0, b - a + 1));
            }
        }
        test("g*g=-(g*g)", 2000000);
        test("g*g<=-(g*g)", 2000000);
        test("g*g<-(g*g)", 2000001);
        test("-(g*g)>=g*g", 2000000);
        test("-(g*g)>g*g", 2000001);
        test("g*g#g*g+1", 1);
    }

    private static void together() {
        Edge.of(Edge.TERMS, "what & puts together is held to 1000000, test by test (one alone is not)");
        String alone = "g*g=-(g*g)";
        test(alone, 2000000);
        test("{" + alone + "}", 2000000);
        test("{{" + alone + "}}", 2000000);
        test("999*1001=0&1=0", 1000000);
        test("999*1001=0&0=0", 999999);
        test("999*1001=0&2=0", 1000000);
        test("g*g=0&0=0", 1000000);
        test("g*g=0&1=0", 1000000);
        test(alone + "&0=0", 1000000);
        test("0=0&" + alone, 1000000);
        test(alone + "&" + alone, 1000000);
        test("g<-(g*g)+g&0=0", 1000000);
        test("1=0&2=0&3=0&4=0", 10);
        test(alone + "|" + alone, 2000000);
        test(alone + "&0=0|" + alone, 1000000);
        test("0=0->" + alone, 2000000);
        test("{0=0->" + alone + "}&0=0", 1000000);
        PlanningHouse x = Due.of(VARS + "rule r at 0*1:" + alone + ";");
        Due.is("held among tests alone, not among rules", x.score(0, 0), 2000000);
    }

    private static void otherTests() {
        Edge.of(Edge.TERMS, "A | B by the lesser one; ~ A by 1 if A is not broken; A -> B by what B is, if A is not broken, otherwise by 0.");
        test("3=0|2=0|4=0", 2);
        test("3=0|0=0|4=0", 0);
        test("~0=0", 1);
        test("~1=0", 0);
        test("~~2=0", 1);
        test("~~0=0", 0);
        test("0=0->3=0", 3);
        test("0=0->0=0", 0);
        test("1=0->3=0", 0);
        test("0=0->0=0->3=0", 3);
        test("0=0->1=0->3=0", 0);
        test("1=0->0=0->3=0", 0);
        test("1=0&0=0|2=0&3=0", 1);
        test("1=0|0=0&2=0", 1);
        test("~1=0&2=0", 2);
        test("~{1=0&2=0}", 0);
        test("1=0|0=0->4=0", 4);
        test("2*3-1=5&2-1-1=0&2-(1-1)=2", 0);
        test("-2*-3=6&--2=2&-(1+1)=-2", 0);
    }

    /** All that can wait while twelve things are open is not lost. */
    private static void waiting() {
        Edge.of(Edge.TERMS, "that would be the 13th that is open");
        for (int end = 3; end <= 4; end++) {
            String test = "a=" + end;
            for (int n = 0; n < 12; n++) test = "1=0|0=0&1=0+1*[" + test + "]";
            test(test, end - 3);
            test = "a=" + end;
            for (int n = 0; n < 6; n++) test = "0=0->1=0|0=0&1=0+1*[" + test + "]";
            test(test, end - 3);
        }
        String sum = "7";
        for (int n = 0; n < 12; n++) sum = "0+1*min(9,8,0+1*" + sum + ")";
        sum(sum, 7);
    }

    /** Twelve vars of the values that are given, each of which could have 0 to 11. */
    private static PlanningHouse twelve(String test, int... values) {
        StringBuilder text = new StringBuilder();
        for (int i = 0; i < values.length; i++) {
            text.append("var ").append(LETTERS.charAt(i)).append(" in{").append(values[i]).append("};");
        }
        return Due.of(text + "rule r at 0*1:" + test + ";");
    }

    private static String names(int n) {
        StringBuilder told = new StringBuilder("a");
        for (int i = 1; i < n; i++) told.append(',').append(LETTERS.charAt(i));
        return told.toString();
    }

    private static void broken(String test, long want, int... values) {
        PlanningHouse x = twelve(test, values);
        Due.is("broken by " + test, x.broken(0, 0), want);
        Due.is("feasible with " + test, x.feasible(0), want == 0);
    }

    private static void all() {
        Edge.of(Edge.TERMS, "all: by how many NAMES there are less how many different values they have.");
        broken("all(a)", 0, 5);
        broken("all(a,a)", 1, 5);
        broken("all(a,b)", 0, 5, -5);
        broken("all(a,b)", 1, 5, 5);
        broken("all(" + names(12) + ")", 0, 0, 1, 2, 3, 4, 5, 6, 7, 8, 9, 10, 11);
        broken("all(" + names(12) + ")", 1, 0, 1, 2, 3, 4, 5, 6, 7, 8, 9, 10, 0);
        broken("all(" + names(12) + ")", 1, 0, 1, 2, 3, 4, 5, 6, 7, 8, 9, 10, 10);
        broken("all(" + names(12) + ")", 11, 7, 7, 7, 7, 7, 7, 7, 7, 7, 7, 7, 7);
        broken("all(" + names(12) + ")", 10, 7, 7, 7, 7, 7, 7, 7, 7, 7, 7, 7, 8);
        broken("all(" + "a,".repeat(11) + "a)", 11, 5);
    }

    private static void row() {
        Edge.of(Edge.TERMS, "row: by the least number of places at which values and a ROW differ.");
        broken("row(a:(5))", 0, 5);
        broken("row(a:(4))", 1, 5);
        broken("row(a,b:(4,6))", 2, 5, 5);
        broken("row(a,b:(4,6),(5,6))", 1, 5, 5);
        broken("row(a,b:(5,6),(4,6))", 1, 5, 5);
        broken("row(a,b:(5,6),(4,6),(5,5))", 0, 5, 5);
        broken("row(a,b:(5,-5))", 0, 5, -5);
        broken("row(a,b:(-5,5))", 2, 5, -5);
        broken("row(a,a:(5,4),(4,5))", 1, 5);
        broken("row(a:" + "(4),".repeat(39) + "(5))", 0, 5);
        broken("row(a:" + "(4),".repeat(39) + "(6))", 1, 5);
        broken("row(a:(5)," + "(4),".repeat(38) + "(4))", 0, 5);
        String row = "(0,1,2,3,4,5,6,7,8,9,10,11)";
        broken("row(" + names(12) + ":" + row + ")", 0, 0, 1, 2, 3, 4, 5, 6, 7, 8, 9, 10, 11);
        broken("row(" + names(12) + ":" + row + ")", 1, 0, 1, 2, 3, 4, 5, 6, 7, 8, 9, 10, 12);
        broken("row(" + names(12) + ":" + row + ")", 1, 1, 1, 2, 3, 4, 5, 6, 7, 8, 9, 10, 11);
        broken("row(" + names(12) + ":" + row + ")", 12, 1, 2, 3, 4, 5, 6, 7, 8, 9, 10, 11, 12);
        broken("row(" + names(12) + ":" + (row.replace('0', '9') + ",").repeat(39) + row + ")", 0, 0, 1, 2, 3, 4, 5, 6, 7, 8, 9, 10, 11);
    }

    private static void lex() {
        Edge.of(Edge.TERMS, "lex: by 1, if at the first place where they differ the first NAMES have the greater value.");
        broken("lex(a:b)", 0, 5, 5);
        broken("lex(a:b)", 1, 6, 5);
        broken("lex(a:b)", 0, 5, 6);
        broken("lex(a,b:b,a)", 0, 5, 6);
        broken("lex(a,b:b,a)", 1, 6, 5);
        broken("lex(a,b:c,d)", 0, 5, 9, 6, 1);
        broken("lex(a,b:c,d)", 1, 6, 1, 5, 9);
        broken("lex(a,b:c,d)", 1, 5, 2, 5, 1);
        broken("lex(a,b:c,d)", 0, 5, 1, 5, 2);
        broken("lex(a,b:c,d)", 0, 5, 1, 5, 1);
        broken("lex(" + "a,".repeat(11) + "b:" + "a,".repeat(11) + "c)", 1, 0, 2, 1);
        broken("lex(" + "a,".repeat(11) + "b:" + "a,".repeat(11) + "c)", 0, 0, 1, 2);
        broken("lex(b," + "a,".repeat(10) + "b:c," + "a,".repeat(10) + "a)", 0, 0, 1, 2);
    }

    private static void ring() {
        Edge.of(Edge.TERMS, "ring: of n NAMES, numbered from 0, the value of each is the number of the next one: by 0, if all values are 0 .. n - 1,"
            + " no two the same, and all NAMES whose value is not their own number (there may be none) lie in one round; else by 1.");
        broken("ring(a)", 0, 0);
        broken("ring(a)", 1, 1);
        broken("ring(a)", 1, -1);
        broken("ring(a,b)", 0, 0, 1);
        broken("ring(a,b)", 0, 1, 0);
        broken("ring(a,b)", 1, 0, 0);
        broken("ring(a,b)", 1, 1, 1);
        broken("ring(a,b)", 1, 0, 2);
        broken("ring(a,b)", 1, 2, 0);
        broken("ring(a,b)", 1, -1, 0);
        broken("ring(a,b)", 1, 33, 0);
        broken("ring(a,b)", 1, 0, 32);
        broken("ring(a,b,c)", 0, 1, 2, 0);
        broken("ring(a,b,c)", 0, 2, 0, 1);
        broken("ring(a,b,c)", 0, 0, 2, 1);
        broken("ring(a,b,c)", 1, 1, 1, 0);
        broken("ring(a,b,c)", 1, 1, 0, 0);
        broken("ring(a,b,c)", 1, 2, 2, 2);
        broken("ring(a,b,c,d)", 1, 1, 0, 3, 2);
        broken("ring(a,b,c,d)", 1, 1, 0, 3, 3);
        broken("ring(a,b,c,d)", 1, 1, 2, 1, 3);
        broken("ring(" + names(12) + ")", 0, 0, 1, 2, 3, 4, 5, 6, 7, 8, 9, 10, 11);
        broken("ring(" + names(12) + ")", 0, 1, 2, 3, 4, 5, 6, 7, 8, 9, 10, 11, 0);
        broken("ring(" + names(12) + ")", 0, 11, 1, 2, 3, 4, 5, 6, 7, 8, 9, 10, 0);
        broken("ring(" + names(12) + ")", 1, 1, 2, 3, 4, 5, 0, 7, 8, 9, 10, 11, 6);
        broken("ring(" + names(12) + ")", 1, 1, 2, 3, 4, 5, 6, 7, 8, 9, 0, 11, 10);
        broken("ring(" + names(12) + ")", 1, 1, 2, 3, 4, 5, 6, 7, 8, 9, 10, 11, 12);
        broken("ring(" + names(12) + ")", 1, 1, 2, 3, 4, 5, 6, 7, 8, 9, 10, 11, 1);
        broken("ring(a,a)", 1, 0);
        broken("ring(a,b,c)&all(a,b,c)", 1, 2, 1, 3, 2);
        broken("ring(a,b,a)", 1, 1, 0);
    }

    private static void auto() {
        Edge.of(Edge.TERMS, "auto: from state 0 each value in turn leads on by the first ARROW (state, value, next state) that fits:"
            + " by 0, if there always is one, and the last state is one of the STATES; else by 1.");
        broken("auto(a:(0,5,1):1)", 0, 5);
        broken("auto(a:(0,5,1):2)", 1, 5);
        broken("auto(a:(0,5,1):0)", 1, 5);
        broken("auto(a:(0,4,1):1)", 1, 5);
        broken("auto(a:(1,5,1):1)", 1, 5);
        broken("auto(a:(1,5,0):0,1)", 1, 5);
        broken("auto(a:(0,-5,0):0)", 0, -5);
        broken("auto(a:(0,5,2),(0,5,1):1)", 1, 5);
        broken("auto(a:(0,5,1),(0,5,2):1)", 0, 5);
        broken("auto(a:(0,5,0),(0,5,1):1)", 1, 5);
        broken("auto(a:(0,5,0),(0,5,1):0)", 0, 5);
        broken("auto(a,b:(0,5,1),(0,5,2),(2,6,3):3)", 1, 5, 6);
        broken("auto(a,b:(0,5,1),(0,6,1):1)", 1, 5, 6);
        broken("auto(a,b:(0,5,1),(1,6,9):9)", 0, 5, 6);
        broken("auto(a,b:(1,6,9),(0,5,1):9)", 0, 5, 6);
        broken("auto(a,b:(0,6,1),(1,5,9):9)", 1, 5, 6);
        broken("auto(a:" + "(1,5,1),".repeat(39) + "(0,5,9):9)", 0, 5);
        broken("auto(a:" + "(1,5,1),".repeat(38) + "(0,5,8),(0,5,9):9)", 1, 5);
        broken("auto(a:(0,5,9):0,1,2,3,4,5,6,7,8,9)", 0, 5);
        broken("auto(a:(0,5,9):0,1,2,3,4,5,6,7,8,8)", 1, 5);
        broken("auto(a:(0,5,9):9,1,2,3,4,5,6,7,8,8)", 0, 5);
        broken("auto(" + "a,".repeat(11) + "b:(0,5,0),(0,6,1):1)", 0, 5, 6);
        broken("auto(" + "a,".repeat(11) + "b:(0,5,0):0)", 1, 5, 6);
        broken("auto(" + "a,".repeat(11) + "a:(0,5,1),(1,5,2),(2,5,3),(3,5,4),(4,5,5),(5,5,6),(6,5,7),(7,5,8),(8,5,9),(9,5,0):2)", 0, 5);
    }

    private static void busy() {
        Edge.of(Edge.TERMS, "busy: a TASK (NAME, duration, height) takes its height at the times from its value on, as many as its duration:"
            + " by as much as the greatest sum of heights at one time is above the NUMBER.");
        broken("busy(5:(a,1,5))", 0, 3);
        broken("busy(4:(a,1,5))", 1, 3);
        broken("busy(0:(a,1,5))", 5, 3);
        broken("busy(0:(a,0,5))", 0, 3);
        broken("busy(0:(a,1,0))", 0, 3);
        broken("busy(0:(a,9999,9999))", 9999, -99);
        broken("busy(9999:(a,9999,9999))", 0, -99);
        broken("busy(0:(a,3,1),(b,1,2))", 2, 0, 3);
        broken("busy(0:(a,3,1),(b,1,2))", 3, 0, 2);
        broken("busy(0:(a,3,1),(b,1,2))", 3, 0, 0);
        broken("busy(0:(a,3,1),(b,1,2))", 2, 1, 0);
        broken("busy(0:(a,3,1),(b,2,2))", 3, 1, 0);
        broken("busy(0:(a,3,1),(b,1,2))", 3, -3, -1);
        broken("busy(0:(a,3,1),(b,1,2))", 2, -3, 0);
        broken("busy(2:(a,3,1),(b,0,9))", 0, 0, 1);
        broken("busy(0:(a,2,1),(a,2,1),(b,9,1))", 3, 5, 0);
        broken("busy(0:(a,2,9),(b,2,1),(c,2,1))", 9, 0, 5, 5);
        broken("busy(0:(a,2,1),(b,2,9),(c,2,1))", 10, 0, 5, 6);
        broken("busy(0:(a,2,1),(b,2,1),(c,2,9))", 10, 0, 5, 4);
        broken("busy(39:" + "(a,1,1),".repeat(39) + "(a,1,1))", 1, 0);
        broken("busy(39:" + "(a,1,1),".repeat(39) + "(b,1,1))", 0, 0, 1);
        broken("busy(0:" + "(a,1,9999),".repeat(39) + "(a,1,9999))", 399960, 0);
        Edge.of(Edge.TERMS, "HELD to -1000000 .. 1000000");
        broken("busy(0:" + "(a,1,9999),".repeat(39) + "(a,1,9999))&busy(0:" + "(a,1,9999),".repeat(39) + "(a,1,9999))&busy(0:"
            + "(a,1,9999),".repeat(39) + "(a,1,9999))", 1000000, 0);
    }

    private static void apart() {
        Edge.of(Edge.TERMS, "apart: a BOX (x, y, width, height): by how many pairs of them there are with x < x' + width', x' < x + width,"
            + " y < y' + height', y' < y + height.");
        String two = "apart((a,b,2,3),(c,d,4,5))";
        broken("apart((a,b,9999,9999))", 0, 0, 0);
        broken(two, 1, 0, 0, 0, 0);
        broken(two, 1, 3, 0, 0, 0);
        broken(two, 0, 4, 0, 0, 0);
        broken(two, 1, 0, 0, 1, 0);
        broken(two, 0, 0, 0, 2, 0);
        broken(two, 1, 0, 4, 0, 0);
        broken(two, 0, 0, 5, 0, 0);
        broken(two, 1, 0, 0, 0, 2);
        broken(two, 0, 0, 0, 0, 3);
        broken(two, 0, 4, 5, 0, 0);
        for (int x : new int[] {-9, 7, 50}) {
            for (int y : new int[] {-20, 3, 70}) {
                broken(two, 1, x, y, x + 1, y + 2);
                broken(two, 0, x, y, x + 2, y);
                broken(two, 0, x, y, x, y + 3);
                broken(two, 1, x, y, x - 3, y - 4);
                broken(two, 0, x, y, x - 4, y);
                broken(two, 0, x, y, x, y - 5);
            }
        }
        broken(two, 1, -1, -1, 0, 0);
        broken(two, 0, -2, 0, 0, 0);
        broken("apart((a,b,0,1),(a,b,1,1))", 0, 0, 0);
        broken("apart((a,b,0,1),(c,b,2,1))", 1, 0, 0, -1);
        broken("apart((a,b,1,0),(a,b,1,1))", 0, 0, 0);
        broken("apart((a,b,1,0),(a,c,1,2))", 1, 0, 0, -1);
        broken("apart((a,b,0,0),(c,c,2,2))", 1, 0, 0, -1);
        broken("apart((a,b,0,0),(a,b,0,0))", 0, 0, 0);
        broken("apart((a,b,1,1),(a,b,1,1),(a,b,1,1))", 3, 0, 0);
        broken("apart((a,b,1,1),(c,b,1,1),(a,b,1,1))", 1, 0, 0, 1);
        broken("apart(" + "(a,b,1,1),".repeat(39) + "(a,b,1,1))", 780, 0, 0);
        broken("apart(" + "(a,b,1,1),".repeat(39) + "(c,b,1,1))", 741, 0, 0, 1);
    }

    private static void scores() {
        Edge.of(Edge.TERMS, "THE SCORE of a plan at a level: the sum of weight times what breaks it, of all rules of this level, and of all aims of it.");
        StringBuilder text = new StringBuilder(VARS);
        for (int i = 0; i < 24; i++) text.append("rule r").append(i).append(" at 1*1000:g*g<-(g*g);");
        for (int i = 0; i < 6; i++) text.append("aim m").append(i).append(" at 2:-(g*g);");
        PlanningHouse x = Due.of(text.toString());
        Due.is("broken", x.broken(0, 23), 2000001);
        Due.is("no level 0", x.score(0, 0), 0);
        Due.is("more than an int has", x.score(0, 1), 48000024000L);
        Due.is("aims below 0", x.score(0, 2), -6000000);
        Due.is("best", x.best(0, 1), 48000024000L);
        Due.is("pairs of the front", x.frontAt(0, 0, 1), 48000024000L);
        x.future(0, 100);
        Due.is("expected", x.expected(0, 1), 4800002400000L);
        Due.is("above", x.above(), 48000024000L);
        Due.is("below", x.below(), 1);
        PlanningHouse y = Due.of("var a in 0..1;");
        for (int level = 0; level < 3; level++) Due.is("nothing at level " + level, y.score(0, level), 0);
    }

    private static void feasible() {
        Edge.of(Edge.TERMS, "FEASIBLE: no rule at level 0 is broken.");
        PlanningHouse x = Due.of("var a in 0..2;rule h at 0*1:a>=1;rule i at 0*1:a<=1;rule s at 1*1:a=9;rule t at 2*1:a=9;");
        for (int a = 0; a < 3; a++) {
            x.put(0, 0, a);
            Due.is("feasible with " + a, x.feasible(0), a == 1);
        }
        PlanningHouse y = Due.of("var a in 0..0;");
        Due.is("without rules", y.feasible(0), true);
    }

    private static void firstPlans() {
        Edge.of(Edge.TERMS, "Of plans the one is FIRST that has the earlier place where they differ first (vars in order).");
        PlanningHouse x = Due.of("var a in{2,1};var b in 5..7;var c in{0};");
        String[] want = {"2 5 0", "2 6 0", "2 7 0", "1 5 0", "1 6 0", "1 7 0"};
        for (int k = 0; k < 6; k++) {
            Due.is("plan " + k, x.feasibleAt(0, k), true);
            Due.planIs(x, 0, want[k]);
        }
        Edge.of(Edge.TERMS, "has a PLAN AT HAND (of each var the first value at first), vars that are PINNED (none at first),"
            + " a COST for each var (1 at first), and FUTURES (none at first)");
        PlanningHouse y = Due.of("var a in{2,1};var b in 5..7;");
        Due.planIs(y, 0, "2 5");
        Due.is("allowed are all", y.count(0, 5), 6);
        for (int v = 0; v < 2; v++) Due.is("cost", y.weigh(0, v, 3), 1);
        for (int v = 0; v < 2; v++) Due.is("pinned", y.pin(0, v, true), false);
        Due.is("allowed is one", y.count(0, 5), 1);
        Due.is("futures", y.count(0, 7), 0);
    }
}
