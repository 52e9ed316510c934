/** The edges of tokens and texts: promises 6 to 8, and what the terms tell of faults. */
public final class EdgeTextsTest {
    private static final String VARS = "fact f=3;var a in 0..3;var b in{2,-1};";
    private static final String RULE = VARS + "rule r at 0*1:";
    private static final String SIGNS = ";=#<>+-*()[]{},:&|~!.";
    private static final String[] WORDS = {
        "fact", "var", "in", "rule", "at", "aim", "all", "row", "lex", "ring", "auto", "busy", "apart", "abs", "min", "max", "pick",
    };
    /** Each way to write something, with one blank between two tokens. */
    private static final String WHOLE = "fact f = - 3 ; var a in 0 .. - 0 ; var b in { 2 , - 1 } ; "
        + "rule r at 0 * 1 : ~ a = 1 & { b # 2 | a < 3 } -> a <= f ; rule s at 1 * 2 : a > 1 & b >= 1 -> a = 1 -> b = 2 ; "
        + "rule t at 2 * 3 : all ( a , b ) & row ( a , b : ( 1 , - 2 ) , ( 2 , 3 ) ) & lex ( a , b : b , a ) & ring ( a , b ) ; "
        + "rule u at 2 * 1000 : auto ( a : ( 0 , - 1 , 2 ) , ( 2 , 1 , 0 ) : 0 , 2 ) | busy ( 1 : ( a , 2 , 3 ) , ( b , 4 , 5 ) ) ; "
        + "rule v at 2 * 3 : apart ( ( a , b , 1 , 2 ) , ( b , a , 3 , 4 ) ) ; "
        + "aim m at 1 : a + b - 3 * - f * ( a + 1 ) ; "
        + "aim n at 2 : abs ( a - 1 ) + min ( a , b ) + max ( a , 1 , 2 ) - pick ( a : 1 , - 2 ) * [ a = 1 -> b = 2 ] ;";

    public static void main(String[] args) {
        bytes();
        names();
        words();
        numbers();
        asLongAsMayBe();
        remarks();
        everyToken();
        lists();
        open();
        closed();
        toldAlready();
        notAsWanted();
        ranges();
        otherNumbers();
        manyStatements();
        hardRules();
        plans();
        tokensTimesPlans();
        order();
        problems();
        latestFault();
        dropped();
        Due.end();
    }

    private static boolean isLetter(int b) {
        return b >= 'a' && b <= 'z' || b >= 'A' && b <= 'Z';
    }

    private static boolean isFigure(int b) {
        return b >= '0' && b <= '9';
    }

    private static boolean isBlank(int b) {
        return b == 9 || b == 10 || b == 13 || b == 32;
    }

    private static void bytes() {
        Edge.of(Edge.TERMS, "with BLANKS (9, 10, 13, 32) and remarks (% up to before the next byte 10, or the end) between");
        Edge.of(Edge.TERMS, "1 a byte at which no token begins");
        for (int b = 0; b < 256; b++) {
            char c = (char) b;
            boolean none = isBlank(b) || c == '%';
            boolean begins = isLetter(b) || isFigure(b) || SIGNS.indexOf(c) >= 0;
            Due.fault("" + c, none ? 1 : 0, none || begins ? 2 : 1);
            String text = "var a in 0..1" + c;
            if (isBlank(b) || isFigure(b) || c == ';') Due.fine(c == ';' ? text : text + ";");
            else if (c == '%') Due.fault(text + ";", text.length() + 1, 2);
            else Due.fault(text + ";", 13, begins ? 2 : 1);
        }
    }

    private static void names() {
        Edge.of(Edge.TERMS, "NAMES (a letter a .. z, A .. Z, then letters and figures; at most 8 bytes)");
        for (int b = 0; b < 256; b++) {
            char c = (char) b;
            String first = "var " + c + "2 in 0..1;";
            String second = "var x" + c + " in 0..1;";
            if (isLetter(b)) Due.fine(first);
            if (isFigure(b)) Due.fault(first, 4, 2);
            if (isLetter(b) || isFigure(b) || isBlank(b)) Due.fine(second);
            else if (c != '%') Due.fault(second, 5, SIGNS.indexOf(c) >= 0 ? 2 : 1);
        }
        Edge.of(Edge.TERMS, "or a NAME or NUMBER that is too long (at its first byte)");
        for (int n = 1; n <= 8; n++) Due.fine("var " + "aZ09bYcX".substring(0, n) + " in 0..1;");
        for (String name : new String[] {"a12345678", "abcdefghi", "factfactf", "a" + "9".repeat(300)}) {
            Due.fault("var @" + name + " in 0..1;", 1);
            Due.fault(RULE + "@" + name + "=1;", 1);
            Due.fault(RULE + "all(a,@" + name + ");", 1);
        }
        PlanningHouse x = Due.of("var abcdefgh in 0..1;var abcdefgi in 0..1;var bcdefgh in 0..1;");
        Due.is("all eight bytes count", x.count(0, 1), 3);
    }

    private static void words() {
        Edge.of(Edge.TERMS, "of which these are WORDS: fact var in rule at aim all row lex ring auto busy apart abs min max pick");
        for (String word : WORDS) {
            Due.fault("fact @" + word + "=1;", 2);
            Due.fault("var @" + word + " in 0..1;", 2);
            Due.fault(VARS + "rule @" + word + " at 0*1:a=1;", 2);
            Due.fault(VARS + "aim @" + word + " at 1:a;", 2);
            Due.fault(RULE + "all(@" + word + ");", 2);
            Due.fine("var x" + word + " in 0..1;");
            Due.fine("var " + word.substring(0, word.length() - 1) + " in 0..1;");
            Due.fine("var " + word + "s in 0..1;");
            Due.fine("var " + word.toUpperCase() + " in 0..1;");
            Due.fine("var " + word.substring(0, 1).toUpperCase() + word.substring(1) + " in 0..1;");
        }
    }

    private static void numbers() {
        Edge.of(Edge.TERMS, "NUMBERS (figures, at most 4)");
        for (String number : new String[] {"3", "03", "003", "0003"}) {
            Due.fine("fact f=" + number + ";var a in " + number + ".." + number + ";var b in{" + number + "};rule r at 000"
                + "*" + number + ":a=" + number + ";aim m at 0001:" + number + ";");
        }
        for (String number : new String[] {"00003", "10000", "99999", "4294967299", "18446744073709551617"}) {
            Due.fault("fact f=@" + number + ";", 1);
            Due.fault("fact f=-@" + number + ";", 1);
            Due.fault("var a in 0..@" + number + ";", 1);
            Due.fault("var a in{@" + number + "};", 1);
            Due.fault(VARS + "rule r at @" + number + "*1:a=1;", 1);
            Due.fault(VARS + "rule r at 0*@" + number + ":a=1;", 1);
            Due.fault(RULE + "a=@" + number + ";", 1);
            Due.fault(RULE + "row(a:(@" + number + "));", 1);
        }
        PlanningHouse x = Due.of("fact f=0012;var a in 0..1;aim m at 1:0009+f;");
        Due.is("figures are of ten", x.aim(0, 0), 21);
    }

    private static void asLongAsMayBe() {
        Edge.of(Edge.TERMS, "TOKENS, each as long as may be");
        Due.fine(RULE + "a<=b&a>=b->a=1;");
        Due.fault(RULE + "a< @=b;", 2);
        Due.fault(RULE + "a> @=b;", 2);
        Due.fault(RULE + "a=@<b;", 2);
        Due.fault(RULE + "a=@>b;", 2);
        Due.fault(RULE + "a<=@=b;", 2);
        Due.fault(RULE + "a<=@>b;", 2);
        Due.fault(RULE + "a<@>b;", 2);
        Due.fine(RULE + "a<-b&a=-b->a>-b;");
        Due.fault(RULE + "a=1- @>a=1;", 2);
        Due.fault(RULE + "a=1-@->a=1;", 2);
        Due.fault(RULE + "a=1->@>a=1;", 2);
        Due.fault(RULE + "a=b->1@;", 2);
        Due.fine("var a in 0..1;");
        Due.fault("var a in 0@. .1;", 2);
        Due.fault("var a in 0@.1;", 2);
        Due.fault("var a in 0..@.1;", 2);
        Due.fault("var a in 0..@..1;", 2);
        Due.fault("@vara in 0..1;", 2);
        Due.fault("var a @in0..1;", 2);
        Due.fault("var a1in @0..1;", 2);
        Due.fault("var a in 0..1@b;", 2);
        Due.fault("var a in 0..12@a;", 2);
        Due.fine("fact f=1;var a in 0..1;rule r at 0*1:f=1;");
    }

    private static void remarks() {
        Edge.of(Edge.TERMS, "remarks (% up to before the next byte 10, or the end)");
        Due.fine("% $ ; \u00e9 % \r x\nvar%\na%in 5\n\tin%\r\n0%..\n..%%\n1%;\n;%");
        Due.fine("var a in 0..1;% $");
        Due.fine("var a in 0..1;%");
        Due.fine("var a in 0..1;%\n%\n%");
        Due.fault("%@", 2);
        Due.fault("%\n@$", 1);
        Due.fault("var a in 0..1;%\rvar b in 0..1;\n@$", 1);
        Due.fault("var a in 0..1%;@", 2);
        Due.fault("var a in 0..1%;\r;@", 2);
        Due.fault("var a in 0..1% ;\n@!;", 2);
        PlanningHouse x = Due.of("var a in 0..1;% var b in 0..1;\nvar c in 0..1;");
        Due.is("what a remark says is not read", x.count(0, 1), 2);
    }

    /** At the place of each token: the end, a sign that never may stand there, and a byte of no token. */
    private static void everyToken() {
        Edge.of(Edge.TERMS, "2 a token that can't stand there (too many or too few of something, too), or the end (the length of the tape)");
        Due.fine(WHOLE);
        String[] tokens = WHOLE.split(" ");
        StringBuilder before = new StringBuilder();
        boolean anyVar = false;
        for (int t = 0; t < tokens.length; t++) {
            String text = before.toString();
            boolean begins = t == 0 || tokens[t - 1].equals(";");
            if (!begins || t == 0) Due.fault(text, text.length(), 2);
            else if (anyVar) Due.fine(text);
            else Due.fault(text, text.length(), 6);
            Due.fault(text + "! ;", text.length(), 2);
            Due.fault(text + "$ ;", text.length(), 1);
            Due.fault(text + "abcdefghi ;", text.length(), 1);
            Due.fault(text + "12345 ;", text.length(), 1);
            if (tokens[t].equals("var")) anyVar = true;
            before.append(tokens[t]).append(' ');
        }
        Edge.of(Edge.TERMS, "A PROBLEM is one or more STATEMENTS, each with ; behind");
        Due.fault("@", 2);
        Due.fault("@;", 2);
        Due.fault("var a in 0..1;@;", 2);
        Due.fault("var a in 0..1@", 2);
        Due.fine("var a in 0..1;");
    }

    /** A list of so many parts is read, one with a part more is not, and neither is one without any. */
    private static void list(String before, String part, int most, String behind) {
        Due.fine(before + part + behind);
        Due.fine(before + (part + ",").repeat(most - 1) + part + behind);
        Due.fault(before + (part + ",").repeat(most - 1) + part + "@," + part + behind, 2);
        Due.fault(before + part + ",@" + behind, 2);
        Due.fault(before + "@" + behind, 2);
    }

    private static void lists() {
        Edge.of(Edge.TERMS, "NAMES: one to twelve NAMES with , between.");
        list(RULE + "all(", "a", 12, ");");
        list(RULE + "ring(", "b", 12, ");");
        list(RULE + "auto(", "a", 12, ":(0,1,1):1);");
        for (int n = 1; n <= 12; n++) {
            String names = "a,".repeat(n - 1) + "b";
            String row = "1,".repeat(n - 1) + "-2";
            Edge.of(Edge.TERMS, "a ROW is ( INT , .. ) with as many INTs as there are NAMES");
            Due.fine(RULE + "row(" + names + ":(" + row + "),(" + row + "));");
            Due.fault(RULE + "row(" + names + ":(" + row + "@,3));", 2);
            Due.fault(RULE + "row(" + names + ":(" + row + "),(" + row + "@,3));", 2);
            if (n > 1) Due.fault(RULE + "row(" + names + ":(" + "1,".repeat(n - 2) + "1@));", 2);
            if (n > 1) Due.fault(RULE + "row(" + names + ":(" + row + "),(" + "1,".repeat(n - 2) + "1@));", 2);
            Edge.of(Edge.TERMS, "Both NAMES of lex are equally many.");
            Due.fine(RULE + "lex(" + names + ":" + names + ");");
            Due.fault(RULE + "lex(" + names + ":" + names + "@,a);", 2);
            if (n > 1) Due.fault(RULE + "lex(" + names + ":" + "a,".repeat(n - 2) + "a@);", 2);
        }
        for (String less : new String[] {"row(a@)", "lex(a@)", "auto(a@)", "auto(a:(0,1,1)@)", "busy(1@)", "row(a:@)", "lex(a:@)", "busy(1:@)", "auto(a:@:1)"}) {
            Due.fault(RULE + less + ";", 2);
        }
        Due.fault(RULE + "row(" + "a,".repeat(11) + "a@,a:(1));", 2);
        Due.fault(RULE + "lex(" + "a,".repeat(11) + "a@,a:a);", 2);
        Edge.of(Edge.TERMS, "ROWS, ARROWS, TASKS, BOXES: one to forty with , between");
        list(RULE + "row(a:", "(1)", 40, ");");
        list(RULE + "auto(a:", "(0,1,1)", 40, ":1);");
        list(RULE + "busy(1:", "(a,1,1)", 40, ");");
        list(RULE + "apart(", "(a,b,1,1)", 40, ");");
        Edge.of(Edge.TERMS, "STATES: one to ten NUMBERS with , between.");
        list(RULE + "auto(a:(0,1,1):", "9", 10, ");");
        Edge.of(Edge.TERMS, "SUMS and INTS: one to twenty with , between.");
        list(RULE + "1=min(", "a+1", 20, ");");
        list(RULE + "1=max(", "2", 20, ");");
        list(RULE + "1=pick(a:", "-1", 20, ");");
        Due.fault(RULE + "1=abs(a@,a);", 2);
        for (String wrong : new String[] {"(0@)", "(0,1@)", "(0,1,1@,1)", "(@-0,1,1)", "(0,1,@-1)"}) {
            Due.fault(RULE + "auto(a:" + wrong + ":1);", 2);
        }
        for (String wrong : new String[] {"(a@)", "(a,1@)", "(a,1,1@,1)", "(a,@-1,1)", "(a,1,@-1)", "(@1,1,1)"}) {
            Due.fault(RULE + "busy(1:" + wrong + ");", 2);
        }
        for (String wrong : new String[] {"(a@)", "(a,b@)", "(a,b,1@)", "(a,b,1,1@,1)", "(a,b,@-1,1)", "(a,b,1,@-1)", "(a,@1,1,1)"}) {
            Due.fault(RULE + "apart(" + wrong + ");", 2);
        }
        Due.fault(RULE + "busy(@-1:(a,1,1));", 2);
        Due.fault(RULE + "auto(a:(0,1,1):@-1);", 2);
    }

    /** Twelve of a thing may be open, the thirteenth is the fault, at its last sign. */
    private static void thirteen(String opening, String middle, String closing) {
        Due.fine(RULE + opening.repeat(12) + middle + closing.repeat(12) + ";");
        Due.fault(RULE + opening.repeat(12) + opening.substring(0, opening.length() - 1) + "@"
            + opening.substring(opening.length() - 1) + middle + closing.repeat(13) + ";", 7);
    }

    private static void open() {
        Edge.of(Edge.TERMS, "7 a ( before a SUM (also behind abs, min, max, pick), a [ or { before a TEST, a ~, a ->, or a - before a FACTOR,"
            + " that would be the 13th that is open");
        thirteen("{", "a=1", "}");
        thirteen("~", "a=1", "");
        thirteen("[", "a=1", "]=1");
        for (String word : new String[] {"", "abs", "min", "max", "pick"}) {
            String end = word.equals("pick") ? ":1)" : ")";
            String all = (word + "(").repeat(12);
            Due.fine(RULE + all + "a" + end.repeat(12) + "=1;");
            Due.fault(RULE + all + word + "@(a" + end.repeat(13) + "=1;", 7);
            Due.fault(RULE + "~".repeat(12) + word + "@(a" + end + "=1;", 7);
        }
        Due.fine(RULE + "a=" + "-".repeat(12) + "a;");
        Due.fault(RULE + "a=" + "-".repeat(12) + "@-a;", 7);
        Due.fine(RULE + "a=1" + "->a=1".repeat(12) + ";");
        Due.fault(RULE + "a=1" + "->a=1".repeat(12) + "@->a=1;", 7);
        for (String thing : new String[] {"~a=1", "{a=1}", "[a=1]=1", "(a)=1", "-a=1"}) {
            Due.fine(RULE + "~".repeat(11) + thing + ";");
            Due.fault(RULE + "~".repeat(12) + "@" + thing + ";", 7);
            Due.fault(RULE + "~".repeat(11) + "{@" + thing + "};", 7);
            Due.fault(RULE + "a=1" + "->a=1".repeat(11) + "->@" + thing + ";", 7);
        }
        Due.fine(RULE + "{".repeat(11) + "a=1->a=1" + "}".repeat(11) + ";");
        Due.fault(RULE + "{".repeat(12) + "a=1@->a=1" + "}".repeat(12) + ";", 7);
        Due.fine(VARS + "aim m at 1:" + "(".repeat(12) + "a" + ")".repeat(12) + ";");
        Due.fault(VARS + "aim m at 1:" + "(".repeat(12) + "@(a" + ")".repeat(13) + ";", 7);
        Due.fine(RULE + "~".repeat(12) + "row(a:(-1))&" + "~".repeat(12) + "busy(1:(a,1,1));");
        Due.fine(RULE + "~".repeat(12) + "a-1=1-a;");
        Due.fault(RULE + "(".repeat(12) + "abs @a", 2);
        Due.fault(RULE + "(".repeat(12) + "a@}", 2);
    }

    private static void closed() {
        Edge.of(Edge.TERMS, "(a ~ to the end of its UNIT, a -> to that of its TEST, a - to that of its FACTOR, all others to their closing sign)");
        Due.fine(RULE + "~a=1&".repeat(13) + "~a=1;");
        Due.fine(RULE + "~~a=1|".repeat(13) + "~".repeat(12) + "a=1;");
        Due.fine(RULE + "{a=1->b=1}&".repeat(13) + "a=1" + "->a=1".repeat(12) + ";");
        Due.fine(RULE + "[a=1->b=1]+".repeat(13) + "1=1" + "->a=1".repeat(12) + ";");
        Due.fine(RULE + "a=-1" + "*-a".repeat(13) + "+-a".repeat(13) + "-" + "-".repeat(12) + "a;");
        Due.fine(RULE + "(a)+".repeat(13) + "(a)*".repeat(13) + "(".repeat(12) + "a" + ")".repeat(12) + "=1;");
        Due.fine(RULE + "abs(a)+min(a)+max(a)+pick(a:1)+".repeat(13) + "abs(".repeat(12) + "a" + ")".repeat(12) + "=1;");
        Due.fine(RULE + "{a=1}&".repeat(13) + "{".repeat(12) + "a=1" + "}".repeat(12) + ";");
        Due.fine(RULE + "[a=1]+".repeat(13) + "[".repeat(12) + "a=1" + "]=1".repeat(12) + ";");
        Due.fault(RULE + "~{".repeat(6) + "@~a=1;", 7);
        Due.fine(RULE + "~{".repeat(6) + "a=1" + "}".repeat(6) + "&" + "~{".repeat(6) + "a=1" + "}".repeat(6) + ";");
        Due.fine(RULE + "a=1->".repeat(6) + "~".repeat(6) + "a=1&" + "~".repeat(6) + "a=1;");
        Due.fault(RULE + "a=1->".repeat(6) + "~".repeat(6) + "a=1&" + "~".repeat(6) + "@~a=1;", 7);
        Due.fault(RULE + "a=" + "-".repeat(11) + "(@-a);", 7);
        PlanningHouse x = new PlanningHouse();
        for (String open : new String[] {"(", "{", "[", "~", "-", "abs(", "1=1->"}) {
            Due.is("a fault within twelve", Due.read(x, RULE + (open.equals("-") ? "a=" : "") + open.repeat(12) + "$") < 0, true);
            Due.is("its code", x.fault(), 1);
            Due.is("none is open in the next text", Due.read(x, RULE + "~".repeat(12) + "a=1;"), 0);
            x.drop(0);
        }
        String next = RULE + "~".repeat(12) + "a=1;rule s at 0*1:" + "~".repeat(12) + "a=1;";
        Due.fine(next + "aim m at 1:" + "(".repeat(12) + "a" + ")".repeat(12) + ";");
    }

    private static String told(int sort, String name) {
        switch (sort) {
            case 0: return "fact " + name + "=1;";
            case 1: return "var " + name + " in 0..1;";
            case 2: return "rule " + name + " at 0*1:v=0;";
            default: return "aim " + name + " at 1:v;";
        }
    }

    private static void toldAlready() {
        Edge.of(Edge.TERMS, "3 a NAME behind fact, var, rule or aim that is told already (all of them together)");
        for (int first = 0; first < 4; first++) {
            for (int second = 0; second < 4; second++) {
                String text = "var v in 0..1;" + told(first, "x");
                Due.fine(text + told(second, "X"));
                int place = text.length() + told(second, "x").indexOf(' ') + 1;
                Due.fault(text + told(second, "x"), place, 3);
                Due.fault(text + told(second, "x").replaceAll("(x).*", "$1"), place, 3);
            }
        }
        Edge.of(Edge.TERMS, "(A NAME is told behind its ; , so not within its own statement.)");
        Due.fault(VARS + "rule r at 0*1:@r=1;", 4);
        Due.fault(VARS + "aim m at 1:@m;", 4);
        Due.fault("var x in 0..1;rule r at 0*1:@y=1;var y in 0..1;", 4);
        Due.fine("var y in 0..1;rule r at 0*1:y=1;");
    }

    private static void notAsWanted() {
        Edge.of(Edge.TERMS, "4 another NAME that is not told before, or not as is wanted: a var or a fact in FACTORs, else a var");
        String text = VARS + "rule q at 0*1:a=1;aim m at 1:a;rule r at 0*1:";
        Due.fine(text + "a=f;");
        String[] factors = {"#=1", "1=#", "1=a+-#", "a+#=1", "a-#=1", "a*#=1", "a*a*#=1", "(#)=1", "abs(#)=1", "min(#)=1", "min(a,#)=1", "max(#,a)=1",
            "max(1,2,#)=1", "pick(#:1)=1", "[#=1]=1", "{#=1}", "~#=1", "1=1|#=1", "1=1|1=1|#=1", "1=1&#=1", "1=1&1=1&#=1", "1=1->#=1", "1=1->1=1->#=1"};
        for (String name : new String[] {"q", "m", "x", "A", "F", "ab", "r"}) {
            for (String factor : factors) Due.fault(text + factor.replace("#", "@" + name) + ";", 4);
            Due.fault(VARS + "rule q at 0*1:a=1;aim m at 1:a;aim r at 1:a*@" + name + ";", 4);
        }
        for (String name : new String[] {"f", "q", "m", "x", "B", "r"}) {
            Due.fault(text + "all(@" + name + ");", 4);
            Due.fault(text + "all(a,@" + name + ");", 4);
            Due.fault(text + "row(@" + name + ":(1));", 4);
            Due.fault(text + "lex(@" + name + ":a);", 4);
            Due.fault(text + "lex(a:@" + name + ");", 4);
            Due.fault(text + "ring(a,@" + name + ");", 4);
            Due.fault(text + "auto(@" + name + ":(0,1,1):1);", 4);
            Due.fault(text + "busy(1:(@" + name + ",1,1));", 4);
            Due.fault(text + "apart((@" + name + ",a,1,1));", 4);
            Due.fault(text + "apart((a,@" + name + ",1,1));", 4);
        }
    }

    private static void ranges() {
        Edge.of(Edge.TERMS, "facts 0 .. 9999 as they are");
        PlanningHouse x = Due.of("fact f=9999;fact g=-9999;fact h=0;fact i=-0;var a in 0..0;");
        long[] want = {9999, -9999, 0, 0};
        for (int f = 0; f < 4; f++) Due.is("fact", x.fact(0, f), want[f]);
        Edge.of(Edge.TERMS, "values of ranges 0 .. 99 (before the sign), the second one not below the first one (with signs; at its NUMBER),"
            + " no value twice in { }");
        Due.fine("var a in 99..99;var b in -99..-99;var c in{99,-99,0};");
        Due.fault("var a in @100..100;", 5);
        Due.fault("var a in -@100..0;", 5);
        Due.fault("var a in 90..@100;", 5);
        Due.fault("var a in -5..-@100;", 5);
        Due.fault("var a in @9999..1;", 5);
        Due.fault("var a in{@100};", 5);
        Due.fault("var a in{1,-@100};", 5);
        Due.fine("var a in 5..5;var b in -5..-5;var c in -0..0;var d in 0..-0;var e in -1..1;");
        Due.fault("var a in 5..@4;", 5);
        Due.fault("var a in 0..-@1;", 5);
        Due.fault("var a in -4..-@5;", 5);
        Due.fault("var a in 1..-@1;", 5);
        Due.fine("var a in{1,-1,0};");
        Due.fault("var a in{1,@1};", 5);
        Due.fault("var a in{1,-1,2,-@1};", 5);
        Due.fault("var a in{0,-@0};", 5);
        Due.fault("var a in{1,2,@01};", 5);
        StringBuilder all = new StringBuilder("0");
        for (int v = 1; v <= 99; v++) all.append(',').append(v).append(",-").append(v);
        Due.fault("var @a in{" + all + "};", 6);
        Due.fault("var a in{" + all + ",-@99};", 5);
        Due.fault("var a in{" + all + ",@0};", 5);
    }

    private static void otherNumbers() {
        Edge.of(Edge.TERMS, "levels 0 .. 2, of aims 1 .. 2; weights 1 .. 1000; states 0 .. 9");
        for (int level = 0; level < 3; level++) {
            PlanningHouse x = Due.of(VARS + "rule r at " + level + "*1:a=1;");
            Due.is("its level", x.rule(0, 0, 0), level);
        }
        Due.fault(VARS + "rule r at @3*1:a=1;", 5);
        Due.fault(VARS + "rule r at @9999*1:a=1;", 5);
        Due.fault(VARS + "rule r at @-1*1:a=1;", 2);
        for (int level = 1; level < 3; level++) {
            PlanningHouse x = Due.of(VARS + "aim m at " + level + ":5;");
            Due.is("its level", x.score(0, level), 5);
        }
        Due.fault(VARS + "aim m at @0:a;", 5);
        Due.fault(VARS + "aim m at @3:a;", 5);
        Due.fault(VARS + "aim m at @-1:a;", 2);
        Due.fine(VARS + "rule r at 0*1:a=1;rule s at 0*1000:a=1;");
        Due.fault(VARS + "rule r at 0*@0:a=1;", 5);
        Due.fault(VARS + "rule r at 0*@1001:a=1;", 5);
        Due.fault(VARS + "rule r at 0*@-1:a=1;", 2);
        Due.fine(RULE + "auto(a:(0,0,9),(9,0,0):0,9);");
        Due.fault(RULE + "auto(a:(@10,0,9):0);", 5);
        Due.fault(RULE + "auto(a:(0,0,@10):0);", 5);
        Due.fault(RULE + "auto(a:(0,0,9):@10);", 5);
        Due.fault(RULE + "auto(a:(0,0,9):0,@9999);", 5);
        Edge.of(Edge.TERMS, "(all other NUMBERS and INTs, of SUMS, ROWS, values of ARROWS, TASKS, BOXES, busy, pick, as they are)");
        Due.fine(RULE + "a+9999=9999-b;");
        Due.fine(RULE + "row(a:(9999),(-9999),(100));");
        Due.fine(RULE + "auto(a:(0,9999,1),(0,-9999,1),(0,10,1):1);");
        Due.fine(RULE + "busy(9999:(a,9999,9999),(a,0,0));");
        Due.fine(RULE + "apart((a,b,9999,9999),(a,b,0,0));");
        Due.fine(RULE + "pick(a:9999,-9999,-0)=1;");
    }

    /** So many statements of a sort may be there, and one more not, at its NAME; one that is told already comes first. */
    private static void most(int sort, int most) {
        Edge.of(Edge.TERMS, "6 (at the NAME behind fact, var, rule, aim) the 17th fact, the 13th var, the 25th rule, the 7th aim");
        StringBuilder text = new StringBuilder(sort == 1 ? "" : "var v in 0..0;");
        for (int i = 0; i < most; i++) text.append(sort == 2 ? "rule n" + i + " at 1*1:v=0;" : told(sort, "n" + i).replace("..1", "..0"));
        Due.fine(text.toString());
        int name = text.length() + told(sort, "").indexOf(' ') + 1;
        Due.fault(text + told(sort, "x"), name, 6);
        Due.fault(text + told(sort, "x").replaceAll("x.*", "x"), name, 6);
        Edge.of(Edge.TERMS, "(At one token by code, 3 first.)");
        Due.fault(text + told(sort, "n0"), name, 3);
        Due.fault(text + told(sort, "abcdefghi"), name, 1);
        Due.fault(text + told(sort, "max"), name, 2);
    }

    private static void manyStatements() {
        most(0, 16);
        most(1, 12);
        most(2, 24);
        most(3, 6);
        StringBuilder text = new StringBuilder();
        for (int i = 0; i < 16; i++) text.append("fact f").append(i).append('=').append(i).append(';');
        for (int i = 0; i < 12; i++) text.append("var v").append(i).append(" in ").append(i).append("..").append(i).append(';');
        for (int i = 0; i < 24; i++) text.append("rule r").append(i).append(" at ").append(i < 12 ? 0 : 2).append("*1:v0=0;");
        for (int i = 0; i < 6; i++) text.append("aim m").append(i).append(" at 1:f").append(10 + i).append(';');
        PlanningHouse x = Due.of(text.toString());
        int[] want = {16, 12, 24, 6};
        for (int what = 0; what < 4; what++) Due.is("count", x.count(0, what), want[what]);
        Due.is("the last fact", x.fact(0, 15), 15);
        Due.is("the last var", x.value(0, 11), 11);
        Due.is("the last rule", x.rule(0, 23, 0), 2);
        Due.is("the last aim", x.aim(0, 5), 15);
    }

    private static void hardRules() {
        Edge.of(Edge.TERMS, "at the 0 of a level that it is the 13th one");
        StringBuilder text = new StringBuilder("var v in 0..0;rule s at 1*1:v=0;");
        for (int i = 0; i < 12; i++) text.append("rule h").append(i).append(" at 0*1:v=0;");
        Due.fine(text.toString());
        Due.fine(text + "rule x at 1*1:v=0;rule y at 2*1:v=0;");
        Due.fault(text + "rule x at @0*1:v=0;", 6);
        Due.fault(text + "rule x at @0000*1:v=0;", 6);
        Due.fault(text + "rule x at @0", 6);
        Due.fault(text + "rule x at @3*1:v=0;", 5);
        Due.fault(text + "aim m at @0:v;", 5);
    }

    private static void plans() {
        Edge.of(Edge.TERMS, "met at the ; of a var's statement (what is wrong before that comes first), but told at its NAME,"
            + " that its range has more than 20 values, or all ranges so far make more than 20000 plans");
        Due.fine("var a in 0..19;");
        Due.fine("var a in -99..-80;");
        Due.fine("var a in{0,1,2,3,4,5,6,7,8,9,10,11,12,13,14,15,16,17,18,-19};");
        Due.fault("var @a in 0..20;", 6);
        Due.fault("var @a in -99..99;", 6);
        Due.fault("var @a in{0,1,2,3,4,5,6,7,8,9,10,11,12,13,14,15,16,17,18,19,20};", 6);
        Due.fault("var a in 0..20@", 2);
        Due.fault("var a in 0..20@$;", 1);
        Due.fault("var a in 0..20 @}", 2);
        Due.fault("var @a in 0..20;$", 6);
        Due.fault("var a in 0..@100;", 5);
        String big = "var a in 0..19;var b in 0..19;var c in 0..9;";
        PlanningHouse x = Due.of(big + "var d in 0..4;var e in 7..7;");
        Due.is("plans", x.count(0, 4), 20000);
        Due.fault(big + "var @d in 0..5;", 6);
        Due.fault(big + "var d in 0..5@", 2);
        Due.fault(big + "var d in 0..4;var @e in 0..1;", 6);
        Due.fault(big + "var @d in 0..19;", 6);
        // 13 * 11 * 7 * 20 = 20020
        Due.fault("var a in 1..13;var b in 1..11;var c in 1..7;var @d in 1..20;", 6);
        Due.fine("var a in 1..13;var b in 1..11;var c in 1..7;var d in 1..19;");
    }

    private static void tokensTimesPlans() {
        Edge.of(Edge.TERMS, "at the length of the tape, that there is no var, or that all plans times how many TOKENS the text has are above 20000000");
        Due.fault("fact f=1;@", 6);
        Due.fault("fact f=1;rule r at 0*1:f=1;aim m at 1:f; % x\n @", 6);
        Due.fault("fact f=1;@$", 1);
        Due.fine("fact f=1;var a in 0..0;");
        // 28 tokens, 7 of the rule before its sum, 961 of the sum, 4 behind it are 1000: with 20000 plans just as many as may be
        String big = "var a in 0..19;var b in 0..19;var c in 0..9;var d in 0..4;rule r at 0*1:";
        String most = big + "a+".repeat(480) + "a=-1;";
        Due.fine(most + "   % remarks and blanks are no tokens\n  ");
        Due.fault(most.replace("=-1;", "=--1;") + "% x@", 6);
        Due.fault(most + "fact f=1;@", 6);
        Due.fault(most + "fact @;", 2);
        // 19 * 19 * 9 * 5 = 16245 plans: 1231 tokens are right, for 20000000 / 16245 is above 1231 and below 1232
        String less = "var a in 1..19;var b in 1..19;var c in 1..9;var d in 1..5;rule r at 0*1:" + "a+".repeat(595) + "a=";
        Due.fine(less + "1+1;");
        Due.fault(less + "1+-1;@", 6);
    }

    private static void order() {
        Edge.of(Edge.TERMS, "FAULTS are told by place and code, the first one from the left");
        Due.fault("var a in 5..@1;$", 5);
        Due.fault("var a in 5..@1;fact a=$", 5);
        Due.fault("fact f=1;fact @f=$;", 3);
        Due.fault(RULE + "@x=12345;", 4);
        Due.fault(RULE + "a=1 @2 $;", 2);
        Edge.of(Edge.TERMS, "A 1 is met when its token is come to.");
        Due.fault("var a in 0..@$;", 1);
        Due.fault("var a in @;$", 2);
        Due.fault("@$", 1);
        Due.fault("var a in 0..1;@abcdefghi", 1);
        Due.fault(RULE + "{a=1@_};", 1);
        Due.fault(RULE + "all(a@?);", 1);
        Due.fault(RULE + "a=1->@\u0000;", 1);
    }

    private static void problems() {
        Edge.of(6, "its number (the least that is free), or -1 less the place of its FAULT. FULL, and the tape stays: there are 4.");
        PlanningHouse x = new PlanningHouse();
        for (int p = 0; p < 4; p++) {
            Due.is("a fault takes no number", Due.read(x, "var a in 5..1;"), -13);
            Due.is("problem()", Due.read(x, "var a in 0..1;"), p);
        }
        Due.type(x, "var b in 0..1;");
        Due.is("the fifth", x.problem(), PlanningHouse.FULL);
        Due.same("the tape stays", Due.tape(x), "var b in 0..1;");
        Due.is("the four stay", x.count(3, 1), 1);
        x.drop(2);
        Due.is("the tape is read now", x.problem(), 2);
        Due.is("the tape is empty", x.cut(0), 0);
        x.drop(3);
        x.drop(0);
        Due.is("the least that is free", Due.read(x, "var b in 0..1;"), 0);
        Due.is("the next one", Due.read(x, "var b in 0..1;"), 3);
        Due.is("FULL with a text of a fault", Due.read(x, "$"), PlanningHouse.FULL);
        Due.is("its tape", x.cut(0), 1);
        // a tape of 20000 bytes is read: the proof of many plans, which is cut where its last NAME would begin
        PlanningHouse y = Due.of("var aaa in 0..1;var bbbbbbbb in 0..10;var cccccc in 0..19;var ddd in 0..19;");
        Due.is("prove", y.prove(0), 20000);
        y.spoil(0, 'a' ^ '%');
        Due.is("all of it is a remark", y.problem(), -20001);
        Due.is("fault()", y.fault(), 2);
        Due.is("prove", y.prove(0), 20000);
        Due.is("a TREE is no text", y.problem(), -1);
        Due.is("prove", y.prove(0), 20000);
        y.spoil(0, 'a' ^ '%');
        y.cut(19985);
        Due.type(y, "\nvar a in 3..3;");
        Due.is("one of all bytes", y.problem(), 1);
        Due.is("bytes of its text", y.count(1, 8), 20000);
    }

    private static void latestFault() {
        Edge.of(7, "0 if it found none, or there was no such call.");
        PlanningHouse x = new PlanningHouse();
        Due.is("no such call", x.fault(), 0);
        x.check(0);
        Due.is("no text was read", x.fault(), 0);
        String[] texts = {"$", ";", "fact f=1;fact f=2;", "fact f=1;rule r at 0*1:x=1;", "var a in 2..1;", "fact f=1;",
            RULE + "~".repeat(13) + "a=1;"};
        int[] codes = {1, 2, 3, 4, 5, 6, 7};
        for (int i = 0; i < texts.length; i++) {
            Due.read(x, texts[i]);
            Due.is("fault() of " + texts[i], x.fault(), codes[i]);
        }
        Due.is("one without a fault", Due.read(x, "var a in 0..1;"), 0);
        Due.is("fault()", x.fault(), 0);
        Due.type(x, "<.");
        Due.is("check", x.check(0), -2);
        Due.is("its fault()", x.fault(), 2);
        for (int p = 1; p < 4; p++) Due.read(x, "var a in 0..1;");
        Due.type(x, "$");
        x.problem();
        Due.is("a FULL problem() reads no text", x.fault(), 0);
        Due.is("check", x.check(0), -1);
        Due.is("fault()", x.fault(), 1);
        x.check(4);
        Due.is("check of none reads no text", x.fault(), 1);
        Due.is("a FULL problem()", x.problem(), PlanningHouse.FULL);
        Due.is("reads no text", x.fault(), 1);
        x.save(0);
        x.drop(0);
        x.load(0);
        x.take();
        x.bring();
        Due.is("load() and bring() are no such calls", x.fault(), 1);
    }

    private static void dropped() {
        Edge.of(8, "The problem is gone, and its number is free. False when there is none.");
        PlanningHouse x = new PlanningHouse();
        for (int p = 0; p < 4; p++) {
            Due.is("drop before", x.drop(p), false);
            Due.read(x, "var a in 0..1;");
        }
        Due.is("drop(-1)", x.drop(-1), false);
        Due.is("drop(4)", x.drop(4), false);
        for (int p = 3; p >= 0; p--) {
            Due.is("drop", x.drop(p), true);
            Due.is("drop again", x.drop(p), false);
            Due.is("it is gone", x.count(p, 1), PlanningHouse.NONE);
            Due.is("the others are there", x.count(0, 1), p == 0 ? PlanningHouse.NONE : 1);
        }
        Due.is("its number is free", Due.read(x, "var b in 3..4;"), 0);
        Due.is("nothing of the old one", x.range(0, 0, 0), 3);
    }
}
