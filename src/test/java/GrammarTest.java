import java.util.ArrayList;
import java.util.Arrays;
import java.util.HashMap;
import java.util.List;
import java.util.Map;
import java.util.Random;

/**
 * A third reading of texts, with none of the program's ways: the document's grammar stands here as a table, all ways
 * through it are gone at once, and a token can't stand there if it is on none of them. It is held against texts that
 * differ from right ones by a token, at each place and by each sort of token.
 */
public final class GrammarTest {
    /**
     * A line for each thing that may stand for another one. X*n is one to n X with a comma between, X=n just n of them; a
     * sign with + behind it is open up to the next "close"; #name and #num stand for tokens, and what is asked of them
     * stands behind the colon.
     */
    private static final String[] LINES = {
        "PROBLEM: STATEMENT MORE",
        "MORE: end", "MORE: STATEMENT MORE",
        "STATEMENT: fact #name:fact = INT ;:fact",
        "STATEMENT: var #name:var in RANGE ;:var",
        "STATEMENT: rule #name:rule at #num:level * #num:weight : TEST ;:rule",
        "STATEMENT: aim #name:aim at #num:aimlevel : SUM ;:aim",
        "INT: #num", "INT: - #num",
        "RANGE: FIRST .. LAST", "FIRST: #num:first", "FIRST: - #num:first", "LAST: #num:last", "LAST: - #num:last",
        "RANGE: { VALUES }", "VALUES: VALUE", "VALUES: VALUE , VALUES", "VALUE: #num:each", "VALUE: - #num:each",
        "TEST: OR THEN", "THEN:", "THEN: ->+ TEST close",
        "OR: AND ORS", "ORS:", "ORS: | AND ORS",
        "AND: UNIT ANDS", "ANDS:", "ANDS: & UNIT ANDS",
        "UNIT: ~+ UNIT close", "UNIT: {+ TEST } close",
        "UNIT: SUM = SUM", "UNIT: SUM # SUM", "UNIT: SUM < SUM", "UNIT: SUM <= SUM", "UNIT: SUM > SUM", "UNIT: SUM >= SUM",
        "UNIT: all ( VAR*12 )", "UNIT: ring ( VAR*12 )", "UNIT: auto ( VAR*12 : ARROW*40 : STATE*10 )",
        "UNIT: busy ( #num : TASK*40 )", "UNIT: apart ( BOX*40 )",
        "VAR: #name:known", "STATE: #num:state", "ARROW: ( #num:state , INT , #num:state )",
        "TASK: ( VAR , #num , #num )", "BOX: ( VAR , VAR , #num , #num )",
        "SUM: TERM TERMS", "TERMS:", "TERMS: + TERM TERMS", "TERMS: - TERM TERMS",
        "TERM: FACTOR FACTORS", "FACTORS:", "FACTORS: * FACTOR FACTORS",
        "FACTOR: #num", "FACTOR: #name:value", "FACTOR: -+ FACTOR close", "FACTOR: (+ SUM ) close",
        "FACTOR: abs (+ SUM ) close", "FACTOR: min (+ SUM*20 ) close", "FACTOR: max (+ SUM*20 ) close",
        "FACTOR: pick (+ SUM : INT*20 ) close", "FACTOR: [+ TEST ] close",
    };
    private static final Map<String, List<String[]>> GRAMMAR = grammar();
    private static final String WORDS = " fact var in rule at aim all row lex ring auto busy apart abs min max pick ";
    private static final String LETTERS = "abcdefghijklmnopqrstuvwxyzABCDEFGHIJKLMNOPQRSTUVWXYZ";
    private static final String FIGURES = "0123456789";
    private static final String SIGNS = " ; = # < <= > >= + - * ( ) [ ] { } , : .. & | ~ -> ! . ";
    /** What comes before a token and in its place, an underline for each blank. */
    private static final String[] EDITS = ("fact var in rule at aim all row lex ring auto busy apart abs min max pick ; = # < <= > >= + - * "
        + "( ) [ ] { } , : .. & | ~ -> ! . $ f g a b r m zz longname toolong00 0 00 1 2 3 9 10 11 19 20 99 100 1000 1001 9999 12345 "
        + "fact_zz_=_1_; var_zz_in_0_.._0_; var_zz_in_0_.._20_; rule_zz_at_0_*_1_:_1_=_1_; rule_zz_at_1_*_1_:_1_=_1_; aim_zz_at_1_:_1_; "
        + ",_a ,_1 ,_(_1_) -_- ~_~ (_( {_1_=_1_} [_1_=_1_] 1_=_1_->").split(" ");

    private static Map<String, List<String[]>> grammar() {
        Map<String, List<String[]>> all = new HashMap<>();
        for (String line : LINES) add(all, line);
        for (int n = 1; n <= 12; n++) {
            add(all, "UNIT: row ( VAR=" + n + " : ROW" + (char) ('A' + n) + "*40 )");
            add(all, "ROW" + (char) ('A' + n) + ": ( INT=" + n + " )");
            add(all, "UNIT: lex ( VAR=" + n + " : VAR=" + n + " )");
        }
        return all;
    }

    private static void add(Map<String, List<String[]>> all, String line) {
        int colon = line.indexOf(':');
        String behind = line.substring(colon + 1).trim();
        String[] symbols = behind.isEmpty() ? new String[0] : behind.split(" ");
        all.computeIfAbsent(line.substring(0, colon), k -> new ArrayList<>()).add(symbols);
    }

    // ---- tokens

    private record Token(String text, int place) {
        boolean isName() {
            return Character.isLetter(text.charAt(0)) && !WORDS.contains(" " + text + " ");
        }

        boolean isNumber() {
            return Character.isDigit(text.charAt(0));
        }
    }

    /** All tokens, up to one that is none, which is told as "?"; behind them "end". */
    private static List<Token> tokens(String text) {
        List<Token> all = new ArrayList<>();
        int at = 0;
        while (at < text.length()) {
            char c = text.charAt(at);
            if (" \t\r\n".indexOf(c) >= 0) {
                at++;
                continue;
            }
            if (c == '%') {
                at = text.indexOf('\n', at) < 0 ? text.length() : text.indexOf('\n', at);
                continue;
            }
            int to = at + 1;
            boolean fits = true;
            if (LETTERS.indexOf(c) >= 0) {
                while (to < text.length() && (LETTERS + FIGURES).indexOf(text.charAt(to)) >= 0) to++;
                fits = to - at <= 8;
            } else if (FIGURES.indexOf(c) >= 0) {
                while (to < text.length() && FIGURES.indexOf(text.charAt(to)) >= 0) to++;
                fits = to - at <= 4;
            } else {
                if (to < text.length() && SIGNS.contains(" " + text.substring(at, at + 2) + " ")) to++;
                fits = SIGNS.contains(" " + text.substring(at, to) + " ");
            }
            all.add(new Token(fits ? text.substring(at, to) : "?", at));
            if (!fits) return all;
            at = to;
        }
        all.add(new Token("end", text.length()));
        return all;
    }

    // ---- all ways at once

    private record Symbols(String first, Symbols rest) {}

    private record Way(Symbols still, int open) {}

    private static Symbols with(String[] symbols, Symbols rest) {
        Symbols all = rest;
        for (int i = symbols.length - 1; i >= 0; i--) all = new Symbols(symbols[i], all);
        return all;
    }

    /** Goes on until a token is wanted. */
    private static void unfold(Way way, List<Way> into) {
        String symbol = way.still.first;
        Symbols rest = way.still.rest;
        List<String[]> lines = GRAMMAR.computeIfAbsent(symbol, GrammarTest::listing);
        if (symbol.equals("close")) unfold(new Way(rest, way.open - 1), into);
        else if (lines.isEmpty()) into.add(way);
        else for (String[] line : lines) unfold(new Way(with(line, rest), way.open), into);
    }

    /** What X*n and X=n stand for, and X~n, which is up to n more of them; nothing for a token. */
    private static List<String[]> listing(String symbol) {
        List<String[]> lines = new ArrayList<>();
        if (!symbol.matches("[A-Z]+[*=~][0-9]+")) return lines;
        int mark = symbol.replaceAll("[0-9]", "").length() - 1;
        String one = symbol.substring(0, mark);
        int n = Integer.parseInt(symbol.substring(mark + 1));
        char how = symbol.charAt(mark);
        if (how == '*') lines.add(new String[] {one, one + "~" + (n - 1)});
        if (how == '=') lines.add(n == 1 ? new String[] {one} : new String[] {one, ",", one + "=" + (n - 1)});
        if (how == '~') lines.add(new String[0]);
        if (how == '~' && n > 0) lines.add(new String[] {",", one, one + "~" + (n - 1)});
        return lines;
    }

    /** The sign or word that a symbol wants, or the sort of token. */
    private static boolean fits(String symbol, Token t) {
        if (symbol.startsWith("#name")) return t.isName() && !t.text.equals("end");
        if (symbol.startsWith("#num")) return t.isNumber();
        String wanted = symbol.length() > 1 && symbol.endsWith("+") ? symbol.substring(0, symbol.length() - 1) : symbol;
        if (wanted.startsWith(";:")) wanted = ";";
        return wanted.equals(t.text);
    }

    // ---- one text

    private final Map<String, String> told = new HashMap<>();
    private final int[] counts = new int[4];
    private final List<Integer> values = new ArrayList<>();
    private Token name;
    private int level = 0;
    private int hards = 0;
    private long plans = 1;
    private int tokens = 0;
    private int code = 0;
    private int place = 0;

    private void read(String text) {
        List<Way> ways = new ArrayList<>();
        unfold(new Way(new Symbols("PROBLEM", null), 0), ways);
        String before = "";
        for (Token t : tokens(text)) {
            List<Way> fitting = new ArrayList<>();
            for (Way way : ways) if (fits(way.still.first, t)) fitting.add(way);
            place = t.place;
            if (fitting.isEmpty()) {
                code = t.text.equals("?") ? 1 : 2;
                return;
            }
            String symbol = fitting.get(0).still.first;
            boolean opens = symbol.length() > 1 && symbol.endsWith("+");
            if (opens && fitting.get(0).open == 12) code = 7;
            else code = meaning(symbol, t, before.equals("-"));
            if (code != 0 || t.text.equals("end")) return;
            ways.clear();
            for (Way way : fitting) unfold(new Way(way.still.rest, opens ? way.open + 1 : way.open), ways);
            before = t.text;
            tokens++;
        }
    }

    /** What is wrong with a token that may stand there; what it tells is kept. */
    private int meaning(String symbol, Token t, boolean minus) {
        int x = t.isNumber() ? Integer.parseInt(t.text) : 0;
        int signed = minus ? -x : x;
        switch (symbol) {
            case "#name:fact": return newName(t, 0, 16);
            case "#name:var":
                values.clear();
                return newName(t, 1, 12);
            case "#name:rule": return newName(t, 2, 24);
            case "#name:aim": return newName(t, 3, 6);
            case "#name:known": return "var".equals(told.get(t.text)) ? 0 : 4;
            case "#name:value": return "var".equals(told.get(t.text)) || "fact".equals(told.get(t.text)) ? 0 : 4;
            case "#num:first":
                values.add(signed);
                return x > 99 ? 5 : 0;
            case "#num:last":
                for (int v = values.get(0) + 1; v <= signed; v++) values.add(v);
                return x > 99 || signed < values.get(0) ? 5 : 0;
            case "#num:each":
                if (x > 99 || values.contains(signed)) return 5;
                values.add(signed);
                return 0;
            case "#num:level":
                level = x;
                return x > 2 ? 5 : x == 0 && hards == 12 ? 6 : 0;
            case "#num:aimlevel": return x < 1 || x > 2 ? 5 : 0;
            case "#num:weight": return x < 1 || x > 1000 ? 5 : 0;
            case "#num:state": return x > 9 ? 5 : 0;
            case ";:fact": return tell("fact", 0);
            case ";:var":
                plans *= values.size();
                if (values.size() > 20 || plans > 20000) {
                    place = name.place;
                    return 6;
                }
                return tell("var", 1);
            case ";:rule":
                if (level == 0) hards++;
                return tell("rule", 2);
            case ";:aim": return tell("aim", 3);
            case "end": return counts[1] == 0 || plans * tokens > 20000000 ? 6 : 0;
            default: return 0;
        }
    }

    private int newName(Token t, int sort, int most) {
        name = t;
        return told.containsKey(t.text) ? 3 : counts[sort] == most ? 6 : 0;
    }

    private int tell(String sort, int k) {
        told.put(name.text, sort);
        counts[k]++;
        return 0;
    }

    // ---- texts against the program

    private static final int[] FOUND = new int[8];
    private static final Random RANDOM = new Random(14);
    private static PlanningHouse house = new PlanningHouse();
    private static int calls = 0;

    private static void compare(String text) {
        int dear = text.length() / 8 + 12;
        if (calls + dear > 512) {
            house = new PlanningHouse();
            calls = 0;
        }
        calls += dear;
        GrammarTest third = new GrammarTest();
        third.read(text);
        FOUND[third.code]++;
        int p = Due.read(house, text);
        Due.is("problem() of " + text, p, third.code == 0 ? 0 : -1 - third.place);
        Due.is("fault() of " + text, house.fault(), third.code);
        if (p < 0) return;
        for (int what = 0; what < 4; what++) Due.is("count(" + what + ") of " + text, house.count(p, what), third.counts[what]);
        Due.is("plans of " + text, house.count(p, 4), third.plans);
        Due.is("hard rules of " + text, house.count(p, 6), third.hards);
        house.drop(p);
    }

    /** With blanks between tokens, or with as few as that they stay the same, or with none. */
    private static String joined(List<String> tokens, int how) {
        StringBuilder text = new StringBuilder();
        for (String t : tokens) {
            boolean apart = how == 0 || how == 1 && text.length() > 0 && Character.isLetterOrDigit(text.charAt(text.length() - 1))
                && Character.isLetterOrDigit(t.charAt(0));
            if (apart) text.append(how == 0 && RANDOM.nextInt(9) == 0 ? "\t% ; $\n" : " ");
            text.append(t);
        }
        return text.toString();
    }

    private static List<String> split(String text) {
        return new ArrayList<>(Arrays.asList(text.split(" ")));
    }

    /** Each token is left out, doubled, changed with the next one; each sort of token comes before it and in its place. */
    private static void edited(String text, int each) {
        compare(text);
        List<String> right = split(text);
        for (int at = 0; at <= right.size(); at++) {
            if (at < right.size()) {
                compare(joined(less(right, at, ""), 1));
                compare(joined(less(right, at, right.get(at) + " " + right.get(at)), 0));
            }
            if (at + 1 < right.size()) {
                List<String> turned = new ArrayList<>(right);
                turned.set(at, right.get(at + 1));
                turned.set(at + 1, right.get(at));
                compare(joined(turned, 1));
            }
            for (String edit : EDITS) {
                if (RANDOM.nextInt(each) != 0) continue;
                String t = edit.replace('_', ' ');
                List<String> more = new ArrayList<>(right);
                more.addAll(at, split(t));
                compare(joined(more, RANDOM.nextInt(3)));
                if (at < right.size()) compare(joined(less(right, at, t), 1));
            }
        }
    }

    /** The tokens with others in the place of one. */
    private static List<String> less(List<String> tokens, int at, String others) {
        List<String> all = new ArrayList<>(tokens.subList(0, at));
        if (!others.isEmpty()) all.addAll(split(others));
        all.addAll(tokens.subList(at + 1, tokens.size()));
        return all;
    }

    /** Some tokens at once are left out, put in, changed. */
    private static void mixed(String text, int times) {
        for (int n = 0; n < times; n++) {
            List<String> tokens = split(text);
            for (int edits = 2 + RANDOM.nextInt(3); edits > 0 && tokens.size() > 1; edits--) {
                int at = RANDOM.nextInt(tokens.size());
                String t = RANDOM.nextBoolean() ? EDITS[RANDOM.nextInt(EDITS.length)] : tokens.get(RANDOM.nextInt(tokens.size()));
                t = t.replace('_', ' ');
                switch (RANDOM.nextInt(4)) {
                    case 0: tokens.remove(at); break;
                    case 1: tokens.addAll(at, split(t)); break;
                    case 2: tokens.set(at, t); break;
                    default: tokens.addAll(at, new ArrayList<>(tokens.subList(at, Math.min(tokens.size(), at + 1 + RANDOM.nextInt(8)))));
                }
            }
            compare(joined(tokens, RANDOM.nextInt(3)));
        }
    }

    private static String repeat(String what, String between, int n) {
        StringBuilder all = new StringBuilder(what);
        for (int i = 1; i < n; i++) all.append(between).append(what);
        return all.toString();
    }

    private static final String HEAD = "fact f = 3 ; fact g = - 4 ; var a in - 1 .. 2 ; var b in { 0 , - 0012 , 99 } ; ";

    public static void main(String[] args) {
        String[] small = {
            HEAD, HEAD + "aim m at 2 : - a * ( b + f ) - abs ( g - 1 ) ;",
            HEAD + "rule r at 0 * 1000 : a = 1 -> b # 2 | ~ a < b & { f <= g } -> a > 1 ; aim m at 1 : [ b >= 0 -> a = a ] ;",
            HEAD + "aim m at 1 : min ( a , b + 1 ) + max ( f ) * pick ( a + 1 : 5 , - 6 ) ;",
            HEAD + "rule r at 1 * 1 : all ( a , b ) & ring ( b ) | lex ( a , b : b , a ) ;",
            HEAD + "rule r at 2 * 3 : row ( a , b : ( 1 , - 2 ) , ( 3 , 4 ) ) -> row ( b : ( 7 ) ) ;",
            HEAD + "rule r at 0 * 3 : auto ( a , b : ( 0 , - 1 , 1 ) , ( 1 , 2 , 9 ) : 0 , 9 ) ;",
            HEAD + "rule r at 0 * 3 : busy ( 3 : ( a , 2 , 1 ) , ( b , 4 , 0 ) ) & apart ( ( a , b , 2 , 3 ) , ( b , b , 1 , 1 ) ) ;",
        };
        for (String text : small) {
            edited(text.trim(), 1);
            mixed(text.trim(), 1500);
        }
        String vars = "var a in 0 .. 1 ; var b in 0 .. 1 ; ";
        String row = "( " + repeat("1", " , ", 12) + " )";
        String[] large = {
            vars + "rule r at 1 * 1 : all ( " + repeat("a", " , ", 12) + " ) & lex ( " + repeat("a", " , ", 12) + " : " + repeat("b", " , ", 12) + " ) ;",
            vars + "rule r at 1 * 1 : row ( " + repeat("b", " , ", 12) + " : " + row + " , " + row + " ) ;",
            vars + "rule r at 1 * 1 : row ( a : " + repeat("( 1 )", " , ", 40) + " ) ;",
            vars + "rule r at 1 * 1 : auto ( a : " + repeat("( 1 , 2 , 3 )", " , ", 40) + " : " + repeat("1", " , ", 10) + " ) ;",
            vars + "rule r at 1 * 1 : busy ( 9 : " + repeat("( a , 2 , 3 )", " , ", 40) + " ) ;",
            vars + "rule r at 1 * 1 : apart ( " + repeat("( a , b , 2 , 3 )", " , ", 40) + " ) ;",
            vars + "aim m at 1 : min ( " + repeat("a", " , ", 20) + " ) + max ( " + repeat("b", " , ", 20) + " ) + pick ( a : " + repeat("3", " , ", 20) + " ) ;",
            vars + repeat("rule # at 0 * 1 : 1 = 1 ;", " ", 12) + " " + repeat("rule # at 1 * 1 : 1 = 1 ;", " ", 12) + " " + repeat("aim # at 1 : 1 ;", " ", 6),
        };
        for (String text : large) {
            edited(numbered(text), 6);
            mixed(numbered(text), 1000);
        }
        String[] brimful = {
            "var a in 0 .. 1 ; rule r at 1 * 1 : ~ { [ ~ 1 = ( - abs ( min ( 1 , max ( - pick ( a : 1 ) ) ) ) ) -> 1 = 1 ] = 0 | ~ ~ 1 = 1 } ;",
            "var a in 0 .. 1 ; rule r at 1 * 1 : " + repeat("1 = 1", " -> ", 13) + " ;",
            "var a in 0 .. 1 ; aim m at 1 : " + repeat("-", " ", 12) + " 1 - " + repeat("(", " ", 12) + " 1 " + repeat(")", " ", 12) + " ;",
            repeat("fact # = 1 ;", " ", 16) + " var a in 0 .. 1 ;", repeat("var # in 0 .. 0 ;", " ", 12),
            "var a in 0 .. 19 ; var b in 1 .. 20 ; var c in 0 .. 9 ; var d in 0 .. 4 ;",
            "var a in { " + numbered(repeat("@", " , ", 20)) + " } ;",
        };
        for (String text : brimful) {
            edited(numbered(text), 1);
            mixed(numbered(text), 2000);
        }
        // 1000 tokens and 20000 plans
        String most = brimful[5] + " aim m at 1 : - " + repeat("1", " + ", 483) + " ;";
        edited(most, 2000);
        mixed(most, 60);
        for (int code = 0; code < FOUND.length; code++) Due.is("texts with a fault " + code + " were there", FOUND[code] > 100, true);
        System.out.println(Arrays.toString(FOUND) + " texts with these faults");
        Due.end();
    }

    /** Each sign # becomes a name of its own, each @ a number of its own. */
    private static String numbered(String text) {
        StringBuilder told = new StringBuilder();
        int n = 0;
        for (String t : text.split(" ")) {
            told.append(told.length() == 0 ? "" : " ").append(t.equals("#") ? "N" + n++ : t.equals("@") ? "" + n++ : t);
        }
        return told.toString();
    }
}
