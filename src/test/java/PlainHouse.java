import java.util.ArrayList;
import java.util.Arrays;
import java.util.HashMap;
import java.util.HashSet;
import java.util.LinkedHashMap;
import java.util.List;
import java.util.Map;
import java.util.Set;
import java.util.TreeMap;
import java.util.regex.Matcher;
import java.util.regex.Pattern;

/** A second reading of the document, as plain and slow as may be, against which random runs are held. */
final class PlainHouse {
    static final int NONE = -1;
    static final long NO = Long.MIN_VALUE;
    static final int FULL = -100000;

    private final StringBuilder tape = new StringBuilder();
    private final PlainProblem[] problems = new PlainProblem[4];
    private final List<String> rows = new ArrayList<>();
    private int latestRows = 0;
    private int fault = 0;
    private long above = 0;
    private long below = 1;
    private int[] searched = null;

    static final class Fault extends Exception {
        final int code;
        final int place;

        Fault(int code, int place) {
            this.code = code;
            this.place = place;
        }
    }

    // ---- tokens

    static final class Token {
        final char kind; // n NAME, w WORD, 0 NUMBER, s SIGN, x none, e end
        final String text;
        final int place;

        Token(char kind, String text, int place) {
            this.kind = kind;
            this.text = text;
            this.place = place;
        }
    }

    private static final Set<String> WORDS = new HashSet<>(Arrays.asList(
        ("fact var in rule at aim all row lex ring auto busy apart abs min max pick").split(" ")));
    private static final Pattern BLANKS = Pattern.compile("(?:[\\t\\n\\r ]|%[^\\n]*)*");
    private static final Pattern TOKEN = Pattern.compile(
        "([A-Za-z][A-Za-z0-9]*)|([0-9]+)|(<=|>=|\\.\\.|->|[;=#<>+\\-*()\\[\\]{},:&|~!.])");

    static List<Token> tokens(String text) {
        List<Token> all = new ArrayList<>();
        int at = 0;
        while (true) {
            Matcher blank = BLANKS.matcher(text).region(at, text.length());
            if (blank.lookingAt()) at = blank.end();
            if (at == text.length()) break;
            Matcher m = TOKEN.matcher(text).region(at, text.length());
            if (!m.lookingAt()) {
                all.add(new Token('x', "", at));
                at++;
                continue;
            }
            String t = m.group();
            char kind = 's';
            if (m.group(1) != null) kind = t.length() > 8 ? 'x' : WORDS.contains(t) ? 'w' : 'n';
            if (m.group(2) != null) kind = t.length() > 4 ? 'x' : '0';
            all.add(new Token(kind, t, at));
            at = m.end();
        }
        all.add(new Token('e', "", text.length()));
        return all;
    }

    // ---- problems

    interface Num {
        long of(int[] values, int[] facts);
    }

    static final class Part {
        String name;
        int level;
        int weight;
        int vars;
        Num says;
    }

    static final class PlainFuture {
        int odds;
        final Map<Integer, Integer> told = new HashMap<>();
    }

    static final class PlainProblem {
        String text;
        final List<String> facts = new ArrayList<>();
        final List<String> vars = new ArrayList<>();
        final List<int[]> ranges = new ArrayList<>();
        final List<Part> rules = new ArrayList<>();
        final List<Part> aims = new ArrayList<>();
        int[] fact = new int[16];
        int[] hand;
        boolean[] pinned;
        int[] cost;
        final List<PlainFuture> futures = new ArrayList<>();

        /** All plans as rows of values, in order. */
        List<int[]> plans() {
            List<int[]> all = new ArrayList<>();
            grow(all, new int[vars.size()], 0);
            return all;
        }

        private void grow(List<int[]> all, int[] plan, int v) {
            if (v == plan.length) {
                all.add(plan.clone());
                return;
            }
            for (int x : ranges.get(v)) {
                plan[v] = x;
                grow(all, plan, v + 1);
            }
        }

        boolean allowed(int[] plan) {
            for (int v = 0; v < plan.length; v++) if (pinned[v] && plan[v] != hand[v]) return false;
            return true;
        }

        List<int[]> allowedOnes() {
            List<int[]> all = new ArrayList<>();
            for (int[] plan : plans()) if (allowed(plan)) all.add(plan);
            return all;
        }

        long[] score(int[] plan, int[] fs) {
            return score(plan, fs, -1);
        }

        long[] score(int[] plan, int[] fs, int lacking) {
            long[] s = new long[3];
            for (int r = 0; r < rules.size(); r++) {
                Part rule = rules.get(r);
                if (r != lacking) s[rule.level] += rule.weight * rule.says.of(plan, fs);
            }
            for (Part aim : aims) s[aim.level] += aim.says.of(plan, fs);
            return s;
        }

        boolean feasible(int[] plan, int[] fs) {
            return feasible(plan, fs, -1);
        }

        boolean feasible(int[] plan, int[] fs, int lacking) {
            for (int r = 0; r < rules.size(); r++) {
                if (r != lacking && rules.get(r).level == 0 && rules.get(r).says.of(plan, fs) > 0) return false;
            }
            return true;
        }

        List<int[]> feasibles() {
            List<int[]> all = new ArrayList<>();
            for (int[] plan : allowedOnes()) if (feasible(plan, fact)) all.add(plan);
            return all;
        }

        /** Those than which none of them is better. */
        List<int[]> bests(List<int[]> some) {
            long[] least = null;
            for (int[] plan : some) {
                long[] s = score(plan, fact);
                if (least == null || better(s, least)) least = s;
            }
            List<int[]> all = new ArrayList<>();
            for (int[] plan : some) if (Arrays.equals(score(plan, fact), least)) all.add(plan);
            return all;
        }

        int[] factsIn(PlainFuture u) {
            int[] fs = fact.clone();
            for (Map.Entry<Integer, Integer> e : u.told.entrySet()) fs[e.getKey()] = e.getValue();
            return fs;
        }

        List<Integer> hards() {
            List<Integer> all = new ArrayList<>();
            for (int r = 0; r < rules.size(); r++) if (rules.get(r).level == 0) all.add(r);
            return all;
        }

        boolean clashes(int set) {
            for (int[] plan : allowedOnes()) {
                boolean breaks = false;
                for (int r = 0; r < rules.size(); r++) {
                    if ((set >> r & 1) != 0 && rules.get(r).says.of(plan, fact) > 0) breaks = true;
                }
                if (!breaks) return false;
            }
            return true;
        }
    }

    static boolean better(long[] a, long[] b) {
        if (a[0] != b[0]) return a[0] < b[0];
        if (a[1] != b[1]) return a[1] < b[1];
        return a[2] < b[2];
    }

    static long held(long x) {
        return x > 1000000 ? 1000000 : x < -1000000 ? -1000000 : x;
    }

    // ---- reading

    static final class Parser {
        final List<Token> tokens;
        final PlainProblem p = new PlainProblem();
        int at = 0;
        int open = 0;
        int vars = 0;

        Parser(String text) {
            tokens = tokens(text);
            p.text = text;
        }

        Token now() {
            return tokens.get(at);
        }

        Fault off() {
            return new Fault(now().kind == 'x' ? 1 : 2, now().place);
        }

        boolean see(String t) {
            return (now().kind == 's' || now().kind == 'w') && now().text.equals(t);
        }

        Token want(String t) throws Fault {
            if (!see(t)) throw off();
            return tokens.get(at++);
        }

        Token wantKind(char kind) throws Fault {
            if (now().kind != kind) throw off();
            return tokens.get(at++);
        }

        Token wantNumber(int from, int to) throws Fault {
            Token t = wantKind('0');
            int x = Integer.parseInt(t.text);
            if (x < from || x > to) throw new Fault(5, t.place);
            return t;
        }

        int number(int from, int to) throws Fault {
            return Integer.parseInt(wantNumber(from, to).text);
        }

        int integer(int to) throws Fault {
            boolean minus = see("-");
            if (minus) at++;
            int x = number(0, to);
            return minus ? -x : x;
        }

        boolean isTold(String name) {
            if (p.facts.contains(name) || p.vars.contains(name)) return true;
            for (Part r : p.rules) if (r.name.equals(name)) return true;
            for (Part a : p.aims) if (a.name.equals(name)) return true;
            return false;
        }

        Token newName(int has, int most) throws Fault {
            Token t = wantKind('n');
            if (isTold(t.text)) throw new Fault(3, t.place);
            if (has >= most) throw new Fault(6, t.place);
            return t;
        }

        PlainProblem problem() throws Fault {
            do statement(); while (now().kind != 'e');
            long plans = 1;
            for (int[] range : p.ranges) plans *= range.length;
            if (p.vars.isEmpty() || plans * (tokens.size() - 1) > 20000000) throw new Fault(6, now().place);
            p.hand = new int[p.vars.size()];
            p.pinned = new boolean[p.vars.size()];
            p.cost = new int[p.vars.size()];
            Arrays.fill(p.cost, 1);
            for (int v = 0; v < p.hand.length; v++) p.hand[v] = p.ranges.get(v)[0];
            return p;
        }

        void statement() throws Fault {
            if (see("fact")) {
                at++;
                Token name = newName(p.facts.size(), 16);
                want("=");
                int x = integer(9999);
                want(";");
                p.fact[p.facts.size()] = x;
                p.facts.add(name.text);
            } else if (see("var")) {
                at++;
                variable();
            } else if (see("rule")) {
                at++;
                Part r = new Part();
                r.name = newName(p.rules.size(), 24).text;
                want("at");
                Token level = wantNumber(0, 2);
                r.level = Integer.parseInt(level.text);
                if (r.level == 0 && p.hards().size() == 12) throw new Fault(6, level.place);
                want("*");
                r.weight = number(1, 1000);
                want(":");
                vars = 0;
                r.says = test();
                r.vars = vars;
                want(";");
                p.rules.add(r);
            } else if (see("aim")) {
                at++;
                Part a = new Part();
                a.name = newName(p.aims.size(), 6).text;
                want("at");
                a.level = number(1, 2);
                want(":");
                a.says = sum();
                want(";");
                p.aims.add(a);
            } else {
                throw off();
            }
        }

        void variable() throws Fault {
            Token name = newName(p.vars.size(), 12);
            want("in");
            List<Integer> values = new ArrayList<>();
            if (see("{")) {
                do {
                    at++;
                    int x = integer(99);
                    if (values.contains(x)) throw new Fault(5, tokens.get(at - 1).place);
                    values.add(x);
                } while (see(","));
                want("}");
            } else {
                int a = integer(99);
                want("..");
                int b = integer(99);
                if (b < a) throw new Fault(5, tokens.get(at - 1).place);
                for (int x = a; x <= b; x++) values.add(x);
            }
            want(";");
            long plans = values.size();
            for (int[] range : p.ranges) plans *= range.length;
            if (values.size() > 20 || plans > 20000) throw new Fault(6, name.place);
            p.vars.add(name.text);
            p.ranges.add(values.stream().mapToInt(x -> x).toArray());
        }

        void enter(String t) throws Fault {
            if (!see(t)) throw off();
            if (open == 12) throw new Fault(7, now().place);
            open++;
            at++;
        }

        Num test() throws Fault {
            Num a = or();
            if (!see("->")) return a;
            enter("->");
            Num b = test();
            open--;
            return (x, f) -> a.of(x, f) == 0 ? b.of(x, f) : 0;
        }

        Num or() throws Fault {
            List<Num> parts = new ArrayList<>();
            parts.add(and());
            while (see("|")) {
                at++;
                parts.add(and());
            }
            return (x, f) -> {
                long least = Long.MAX_VALUE;
                for (Num part : parts) least = Math.min(least, part.of(x, f));
                return least;
            };
        }

        Num and() throws Fault {
            Num a = unit();
            while (see("&")) {
                at++;
                Num left = a;
                Num right = unit();
                a = (x, f) -> Math.min(1000000, left.of(x, f) + right.of(x, f));
            }
            return a;
        }

        Num unit() throws Fault {
            if (see("~")) {
                enter("~");
                Num a = unit();
                open--;
                return (x, f) -> a.of(x, f) == 0 ? 1 : 0;
            }
            if (see("{")) {
                enter("{");
                Num a = test();
                want("}");
                open--;
                return a;
            }
            if (now().kind == 'w') {
                switch (now().text) {
                    case "all": return all();
                    case "row": return row();
                    case "lex": return lex();
                    case "ring": return ring();
                    case "auto": return auto();
                    case "busy": return busy();
                    case "apart": return apart();
                    default: break;
                }
            }
            Num a = sum();
            if (now().kind != 's' || !Arrays.asList("=", "#", "<", "<=", ">", ">=").contains(now().text)) throw off();
            String op = tokens.get(at++).text;
            Num b = sum();
            return (x, f) -> {
                long d = a.of(x, f) - b.of(x, f);
                switch (op) {
                    case "=": return Math.abs(d);
                    case "#": return d == 0 ? 1 : 0;
                    case "<": return d < 0 ? 0 : d + 1;
                    case "<=": return d <= 0 ? 0 : d;
                    case ">": return d > 0 ? 0 : 1 - d;
                    default: return d >= 0 ? 0 : -d;
                }
            };
        }

        int varName() throws Fault {
            Token t = wantKind('n');
            int v = p.vars.indexOf(t.text);
            if (v < 0) throw new Fault(4, t.place);
            vars |= 1 << v;
            return v;
        }

        int[] names() throws Fault {
            List<Integer> all = new ArrayList<>();
            all.add(varName());
            while (see(",") && all.size() < 12) {
                at++;
                all.add(varName());
            }
            return all.stream().mapToInt(x -> x).toArray();
        }

        Num all() throws Fault {
            at++;
            want("(");
            int[] names = names();
            want(")");
            return (x, f) -> {
                Set<Integer> met = new HashSet<>();
                for (int v : names) met.add(x[v]);
                return names.length - met.size();
            };
        }

        Num row() throws Fault {
            at++;
            want("(");
            int[] names = names();
            want(":");
            List<int[]> table = new ArrayList<>();
            do {
                if (!table.isEmpty()) want(",");
                int[] line = new int[names.length];
                for (int i = 0; i < names.length; i++) {
                    want(i == 0 ? "(" : ",");
                    line[i] = integer(9999);
                }
                want(")");
                table.add(line);
            } while (see(",") && table.size() < 40);
            want(")");
            return (x, f) -> {
                int least = 99;
                for (int[] line : table) {
                    int off = 0;
                    for (int i = 0; i < names.length; i++) off += x[names[i]] == line[i] ? 0 : 1;
                    least = Math.min(least, off);
                }
                return least;
            };
        }

        Num lex() throws Fault {
            at++;
            want("(");
            int[] a = names();
            want(":");
            int[] b = new int[a.length];
            for (int i = 0; i < a.length; i++) {
                if (i > 0) want(",");
                b[i] = varName();
            }
            want(")");
            return (x, f) -> {
                for (int i = 0; i < a.length; i++) {
                    if (x[a[i]] > x[b[i]]) return 1;
                    if (x[a[i]] < x[b[i]]) return 0;
                }
                return 0;
            };
        }

        Num ring() throws Fault {
            at++;
            want("(");
            int[] names = names();
            want(")");
            return (x, f) -> {
                int n = names.length;
                Set<Integer> met = new HashSet<>();
                Set<Integer> away = new HashSet<>();
                for (int i = 0; i < n; i++) {
                    int y = x[names[i]];
                    if (y < 0 || y >= n || !met.add(y)) return 1;
                    if (y != i) away.add(i);
                }
                if (away.isEmpty()) return 0;
                Set<Integer> round = new HashSet<>();
                int i = away.iterator().next();
                while (round.add(i)) i = x[names[i]];
                return round.equals(away) ? 0 : 1;
            };
        }

        Num auto() throws Fault {
            at++;
            want("(");
            int[] names = names();
            want(":");
            Map<List<Integer>, Integer> arrows = new LinkedHashMap<>();
            int n = 0;
            do {
                if (n > 0) want(",");
                want("(");
                int from = number(0, 9);
                want(",");
                int value = integer(9999);
                want(",");
                int to = number(0, 9);
                want(")");
                arrows.putIfAbsent(Arrays.asList(from, value), to);
                n++;
            } while (see(",") && n < 40);
            want(":");
            Set<Integer> states = new HashSet<>();
            states.add(number(0, 9));
            for (int i = 1; i < 10 && see(","); i++) {
                at++;
                states.add(number(0, 9));
            }
            want(")");
            return (x, f) -> {
                Integer state = 0;
                for (int v : names) {
                    state = arrows.get(Arrays.asList(state, x[v]));
                    if (state == null) return 1;
                }
                return states.contains(state) ? 0 : 1;
            };
        }

        Num busy() throws Fault {
            at++;
            want("(");
            int cap = number(0, 9999);
            want(":");
            List<int[]> tasks = new ArrayList<>();
            do {
                if (!tasks.isEmpty()) want(",");
                want("(");
                int v = varName();
                want(",");
                int d = number(0, 9999);
                want(",");
                int h = number(0, 9999);
                want(")");
                tasks.add(new int[] {v, d, h});
            } while (see(",") && tasks.size() < 40);
            want(")");
            return (x, f) -> {
                int most = 0;
                for (int time = -100; time <= 100; time++) {
                    int sum = 0;
                    for (int[] t : tasks) if (x[t[0]] <= time && time <= x[t[0]] + t[1] - 1) sum += t[2];
                    most = Math.max(most, sum);
                }
                return most > cap ? most - cap : 0;
            };
        }

        Num apart() throws Fault {
            at++;
            want("(");
            List<int[]> boxes = new ArrayList<>();
            do {
                if (!boxes.isEmpty()) want(",");
                want("(");
                int x = varName();
                want(",");
                int y = varName();
                want(",");
                int w = number(0, 9999);
                want(",");
                int h = number(0, 9999);
                want(")");
                boxes.add(new int[] {x, y, w, h});
            } while (see(",") && boxes.size() < 40);
            want(")");
            return (x, f) -> {
                int pairs = 0;
                for (int i = 0; i < boxes.size(); i++) {
                    for (int j = 0; j < i; j++) {
                        int[] a = boxes.get(i);
                        int[] b = boxes.get(j);
                        if (x[a[0]] < x[b[0]] + b[2] && x[b[0]] < x[a[0]] + a[2]
                            && x[a[1]] < x[b[1]] + b[3] && x[b[1]] < x[a[1]] + a[3]) pairs++;
                    }
                }
                return pairs;
            };
        }

        Num sum() throws Fault {
            Num a = term();
            while (see("+") || see("-")) {
                boolean plus = see("+");
                at++;
                Num left = a;
                Num right = term();
                a = (x, f) -> held(plus ? left.of(x, f) + right.of(x, f) : left.of(x, f) - right.of(x, f));
            }
            return a;
        }

        Num term() throws Fault {
            Num a = factor();
            while (see("*")) {
                at++;
                Num left = a;
                Num right = factor();
                a = (x, f) -> held(left.of(x, f) * right.of(x, f));
            }
            return a;
        }

        Num factor() throws Fault {
            if (now().kind == '0') {
                int n = number(0, 9999);
                return (x, f) -> n;
            }
            if (now().kind == 'n') {
                Token t = tokens.get(at++);
                int v = p.vars.indexOf(t.text);
                int k = p.facts.indexOf(t.text);
                if (v >= 0) {
                    vars |= 1 << v;
                    return (x, f) -> x[v];
                }
                if (k >= 0) return (x, f) -> f[k];
                throw new Fault(4, t.place);
            }
            if (see("-")) {
                enter("-");
                Num a = factor();
                open--;
                return (x, f) -> held(-a.of(x, f));
            }
            if (see("(")) return inBrackets();
            if (see("[")) {
                enter("[");
                Num a = test();
                want("]");
                open--;
                return (x, f) -> a.of(x, f) == 0 ? 1 : 0;
            }
            if (see("abs")) {
                at++;
                Num a = inBrackets();
                return (x, f) -> held(Math.abs(a.of(x, f)));
            }
            if (see("min") || see("max")) return extreme();
            if (see("pick")) {
                at++;
                enter("(");
                Num a = sum();
                want(":");
                List<Integer> ints = new ArrayList<>();
                ints.add(integer(9999));
                while (see(",") && ints.size() < 20) {
                    at++;
                    ints.add(integer(9999));
                }
                want(")");
                open--;
                return (x, f) -> {
                    long i = a.of(x, f);
                    return i >= 0 && i < ints.size() ? ints.get((int) i) : 0;
                };
            }
            throw off();
        }

        Num inBrackets() throws Fault {
            enter("(");
            Num a = sum();
            want(")");
            open--;
            return a;
        }

        Num extreme() throws Fault {
            boolean min = tokens.get(at++).text.equals("min");
            enter("(");
            List<Num> all = new ArrayList<>();
            all.add(sum());
            while (see(",") && all.size() < 20) {
                at++;
                all.add(sum());
            }
            want(")");
            open--;
            return (x, f) -> {
                long found = all.get(0).of(x, f);
                for (Num a : all) found = min ? Math.min(found, a.of(x, f)) : Math.max(found, a.of(x, f));
                return found;
            };
        }
    }

    // ---- the tape

    public int type(long w, int n) {
        if (n < 1 || n > 8) return NONE;
        if (tape.length() + n > 20000) return FULL;
        for (int i = n - 1; i >= 0; i--) tape.append((char) (w >> 8 * i & 255));
        return tape.length();
    }

    public int cut(int n) {
        int had = tape.length();
        if (n < 0 || n > had) return NONE;
        tape.setLength(n);
        return had;
    }

    public int spoil(int i, int by) {
        if (i < 0 || i >= tape.length()) return NONE;
        tape.setCharAt(i, (char) (tape.charAt(i) ^ by & 255));
        return tape.charAt(i);
    }

    public int tapeAt(int i) {
        return i < 0 || i >= tape.length() ? NONE : tape.charAt(i);
    }

    // ---- problems

    private PlainProblem at(int p) {
        return p < 0 || p > 3 ? null : problems[p];
    }

    private PlainProblem withVar(int p, int v) {
        PlainProblem q = at(p);
        return q == null || v < 0 || v >= q.vars.size() ? null : q;
    }

    private int free() {
        for (int p = 0; p < 4; p++) if (problems[p] == null) return p;
        return -1;
    }

    public int problem() {
        int p = free();
        if (p < 0) return FULL;
        String text = tape.toString();
        tape.setLength(0);
        try {
            problems[p] = new Parser(text).problem();
            fault = 0;
            return p;
        } catch (Fault f) {
            fault = f.code;
            return -1 - f.place;
        }
    }

    public int fault() {
        return fault;
    }

    public boolean drop(int p) {
        if (at(p) == null) return false;
        problems[p] = null;
        return true;
    }

    public int count(int p, int what) {
        PlainProblem q = at(p);
        if (q == null) return NONE;
        int[] told = {q.facts.size(), q.vars.size(), q.rules.size(), q.aims.size(), q.plans().size(),
            q.allowedOnes().size(), q.hards().size(), q.futures.size(), q.text.length()};
        return what < 0 || what > 8 ? NONE : told[what];
    }

    public int find(int p) {
        PlainProblem q = at(p);
        String name = tape.toString();
        if (q == null || !name.matches("[A-Za-z][A-Za-z0-9]{0,7}") || WORDS.contains(name)) return NONE;
        if (q.facts.contains(name)) return q.facts.indexOf(name);
        if (q.vars.contains(name)) return 100 + q.vars.indexOf(name);
        for (int r = 0; r < q.rules.size(); r++) if (q.rules.get(r).name.equals(name)) return 200 + r;
        for (int a = 0; a < q.aims.size(); a++) if (q.aims.get(a).name.equals(name)) return 300 + a;
        return NONE;
    }

    public int letter(int p, int kind, int k, int i) {
        PlainProblem q = at(p);
        if (q == null || kind < 0 || kind > 3 || k < 0 || i < 0) return NONE;
        List<String> names = new ArrayList<>();
        if (kind == 0) names = q.facts;
        if (kind == 1) names = q.vars;
        if (kind == 2) for (Part r : q.rules) names.add(r.name);
        if (kind == 3) for (Part a : q.aims) names.add(a.name);
        return k >= names.size() || i >= names.get(k).length() ? NONE : names.get(k).charAt(i);
    }

    public int shown(int p, int k, int i) {
        PlainProblem q = at(p);
        if (q == null || k < 0 || i < 0) return NONE;
        List<String> statements = new ArrayList<>();
        StringBuilder line = new StringBuilder();
        for (Token t : tokens(q.text)) {
            if (t.kind == 'e') break;
            if (line.length() > 0) line.append(' ');
            line.append(t.text);
            if (t.text.equals(";")) {
                statements.add(line.toString());
                line.setLength(0);
            }
        }
        return k >= statements.size() || i >= statements.get(k).length() ? NONE : statements.get(k).charAt(i);
    }

    public long range(int p, int v, int k) {
        PlainProblem q = withVar(p, v);
        return q == null || k < 0 || k >= q.ranges.get(v).length ? NO : q.ranges.get(v)[k];
    }

    public int rule(int p, int r, int what) {
        PlainProblem q = at(p);
        if (q == null || r < 0 || r >= q.rules.size()) return NONE;
        Part rule = q.rules.get(r);
        switch (what) {
            case 0: return rule.level;
            case 1: return rule.weight;
            case 2: return rule.vars;
            case 3:
                for (int[] plan : q.plans()) if (rule.says.of(plan, q.fact) > 0) return 1;
                return 0;
            default: return NONE;
        }
    }

    // ---- plans, facts, pins

    public long fact(int p, int f) {
        PlainProblem q = at(p);
        return q == null || f < 0 || f >= q.facts.size() ? NO : q.fact[f];
    }

    public boolean change(int p, int f, int value) {
        PlainProblem q = at(p);
        if (q == null || f < 0 || f >= q.facts.size() || Math.abs((long) value) > 9999) return false;
        q.fact[f] = value;
        return true;
    }

    public long value(int p, int v) {
        PlainProblem q = withVar(p, v);
        return q == null ? NO : q.hand[v];
    }

    public boolean put(int p, int v, int value) {
        PlainProblem q = withVar(p, v);
        if (q == null) return false;
        for (int x : q.ranges.get(v)) {
            if (x == value) {
                q.hand[v] = value;
                return true;
            }
        }
        return false;
    }

    public boolean pin(int p, int v, boolean is) {
        PlainProblem q = withVar(p, v);
        if (q == null) return false;
        boolean was = q.pinned[v];
        q.pinned[v] = is;
        return was;
    }

    public int weigh(int p, int v, int cost) {
        PlainProblem q = withVar(p, v);
        if (q == null || cost < 0 || cost > 1000) return NONE;
        int was = q.cost[v];
        q.cost[v] = cost;
        return was;
    }

    public int broken(int p, int r) {
        PlainProblem q = at(p);
        return q == null || r < 0 || r >= q.rules.size() ? NONE : (int) q.rules.get(r).says.of(q.hand, q.fact);
    }

    public long aim(int p, int a) {
        PlainProblem q = at(p);
        return q == null || a < 0 || a >= q.aims.size() ? NO : q.aims.get(a).says.of(q.hand, q.fact);
    }

    public long score(int p, int level) {
        PlainProblem q = at(p);
        return q == null || level < 0 || level > 2 ? NO : q.score(q.hand, q.fact)[level];
    }

    public boolean feasible(int p) {
        PlainProblem q = at(p);
        return q != null && q.feasible(q.hand, q.fact);
    }

    // ---- what rules leave

    private static List<Set<Integer>> left(PlainProblem q) {
        List<Set<Integer>> left = new ArrayList<>();
        for (int v = 0; v < q.vars.size(); v++) {
            Set<Integer> values = new HashSet<>();
            for (int x : q.ranges.get(v)) if (!q.pinned[v] || q.hand[v] == x) values.add(x);
            left.add(values);
        }
        List<int[]> plans = q.allowedOnes();
        boolean went = true;
        while (went) {
            went = false;
            for (int r : q.hards()) {
                List<Set<Integer>> seen = new ArrayList<>();
                for (int v = 0; v < q.vars.size(); v++) seen.add(new HashSet<>());
                for (int[] plan : plans) {
                    boolean in = true;
                    for (int v = 0; v < plan.length && in; v++) in = left.get(v).contains(plan[v]);
                    if (!in || q.rules.get(r).says.of(plan, q.fact) > 0) continue;
                    for (int v = 0; v < plan.length; v++) seen.get(v).add(plan[v]);
                }
                for (int v = 0; v < q.vars.size(); v++) went |= left.get(v).retainAll(seen.get(v));
            }
        }
        return left;
    }

    public int reach(int p) {
        PlainProblem q = at(p);
        if (q == null) return NONE;
        int n = 0;
        for (Set<Integer> s : left(q)) n += s.size();
        return n;
    }

    public boolean isLeft(int p, int v, int k) {
        PlainProblem q = withVar(p, v);
        if (q == null || k < 0 || k >= q.ranges.get(v).length) return false;
        return left(q).get(v).contains(q.ranges.get(v)[k]);
    }

    public int hopeless(int p) {
        PlainProblem q = at(p);
        if (q == null) return NONE;
        for (int r : q.hards()) if (q.clashes(1 << r)) return r;
        return NONE;
    }

    // ---- the best

    private static List<int[]> chosen(PlainProblem q, boolean best) {
        List<int[]> all = q.feasibles();
        return best ? q.bests(all) : all;
    }

    public int solve(int p) {
        PlainProblem q = at(p);
        if (q == null) return NONE;
        return bestAt(p, 0) ? 1 : 0;
    }

    public long best(int p, int level) {
        PlainProblem q = at(p);
        if (q == null || level < 0 || level > 2 || chosen(q, true).isEmpty()) return NO;
        return q.score(chosen(q, true).get(0), q.fact)[level];
    }

    public int bests(int p) {
        PlainProblem q = at(p);
        return q == null ? NONE : chosen(q, true).size();
    }

    public boolean bestAt(int p, int k) {
        PlainProblem q = at(p);
        if (q == null || k < 0 || k >= chosen(q, true).size()) return false;
        q.hand = chosen(q, true).get(k);
        return true;
    }

    public int feasibles(int p) {
        PlainProblem q = at(p);
        return q == null ? NONE : chosen(q, false).size();
    }

    public boolean feasibleAt(int p, int k) {
        PlainProblem q = at(p);
        if (q == null || k < 0 || k >= chosen(q, false).size()) return false;
        q.hand = chosen(q, false).get(k);
        return true;
    }

    private void show(long a, long b) {
        if (b == 0) {
            above = 0;
            below = 1;
            return;
        }
        java.math.BigInteger gcd = java.math.BigInteger.valueOf(a).gcd(java.math.BigInteger.valueOf(b));
        above = a / gcd.longValue();
        below = b / gcd.longValue();
    }

    public int has(int p, int v, int value, boolean best) {
        PlainProblem q = withVar(p, v);
        if (q == null) return NONE;
        int n = 0;
        for (int[] plan : chosen(q, best)) if (plan[v] == value) n++;
        show(n, chosen(q, best).size());
        return n;
    }

    public int choices(int p, int v) {
        PlainProblem q = withVar(p, v);
        if (q == null) return NONE;
        Set<Integer> met = new HashSet<>();
        for (int[] plan : chosen(q, true)) met.add(plan[v]);
        return met.size();
    }

    public int mend(int p, int set) {
        PlainProblem q = at(p);
        if (q == null) return NONE;
        List<int[]> some = new ArrayList<>();
        for (int[] plan : q.plans()) {
            boolean fits = q.feasible(plan, q.fact);
            for (int v = 0; v < plan.length; v++) if ((set & 1 << v) == 0 && plan[v] != q.hand[v]) fits = false;
            if (fits) some.add(plan);
        }
        if (some.isEmpty()) return 0;
        q.hand = q.bests(some).get(0);
        return 1;
    }

    // ---- several aims, near plans

    private static TreeMap<Long, List<int[]>> frontOf(PlainProblem q) {
        TreeMap<Long, List<int[]>> found = new TreeMap<>();
        List<int[]> all = q.feasibles();
        List<long[]> scores = new ArrayList<>();
        Set<List<Long>> pairs = new HashSet<>();
        for (int[] plan : all) {
            long[] s = q.score(plan, q.fact);
            scores.add(s);
            pairs.add(Arrays.asList(s[1], s[2]));
        }
        for (int i = 0; i < all.size(); i++) {
            long[] s = scores.get(i);
            boolean in = true;
            for (List<Long> o : pairs) {
                if (o.get(0) < s[1] && o.get(1) <= s[2] || o.get(0) <= s[1] && o.get(1) < s[2]) in = false;
            }
            if (in) found.computeIfAbsent(s[1], x -> new ArrayList<>()).add(all.get(i));
        }
        return found;
    }

    public int front(int p) {
        PlainProblem q = at(p);
        return q == null ? NONE : frontOf(q).size();
    }

    public long frontAt(int p, int k, int what) {
        PlainProblem q = at(p);
        if (q == null || k < 0 || what < 0 || what > 2) return NO;
        List<List<int[]>> all = new ArrayList<>(frontOf(q).values());
        if (k >= all.size()) return NO;
        return what == 0 ? all.get(k).size() : q.score(all.get(k).get(0), q.fact)[what];
    }

    public boolean frontPlan(int p, int k) {
        PlainProblem q = at(p);
        if (q == null || k < 0) return false;
        List<List<int[]>> all = new ArrayList<>(frontOf(q).values());
        if (k >= all.size()) return false;
        q.hand = all.get(k).get(0);
        return true;
    }

    public int near(int p, boolean best) {
        PlainProblem q = at(p);
        if (q == null) return NONE;
        int[] found = null;
        int least = 0;
        for (int[] plan : chosen(q, best)) {
            int costs = 0;
            for (int v = 0; v < plan.length; v++) if (plan[v] != q.hand[v]) costs += q.cost[v];
            if (found == null || costs < least) {
                found = plan;
                least = costs;
            }
        }
        if (found == null) return NONE;
        q.hand = found;
        return least;
    }

    // ---- none, and why

    private static int hardSet(PlainProblem q) {
        int set = 0;
        for (int r : q.hards()) set |= 1 << r;
        return set;
    }

    public int clash(int p) {
        PlainProblem q = at(p);
        if (q == null) return NONE;
        int set = hardSet(q);
        if (!q.clashes(set)) return 0;
        for (int r : q.hards()) if (q.clashes(set & ~(1 << r))) set &= ~(1 << r);
        return set;
    }

    public int fewest(int p) {
        PlainProblem q = at(p);
        if (q == null) return NONE;
        int all = hardSet(q);
        if (!q.clashes(all)) return 0;
        int found = all;
        for (int set = 1; set <= all; set++) {
            if ((set & ~all) != 0 || Integer.bitCount(set) > Integer.bitCount(found)) continue;
            boolean less = Integer.bitCount(set) < Integer.bitCount(found) || set < found;
            if (less && q.clashes(set)) found = set;
        }
        return found;
    }

    public int relax(int p) {
        PlainProblem q = at(p);
        if (q == null) return NONE;
        int all = hardSet(q);
        int found = -1;
        int least = 0;
        for (int set = 0; set <= all; set++) {
            if ((set & ~all) != 0) continue;
            int weight = 0;
            for (int r : q.hards()) if ((set >> r & 1) != 0) weight += q.rules.get(r).weight;
            if (found >= 0 && weight >= least) continue;
            if (q.clashes(all & ~set)) continue;
            found = set;
            least = weight;
        }
        return found;
    }

    public long without(int p, int r, int level) {
        PlainProblem q = at(p);
        if (q == null || r < 0 || r >= q.rules.size() || level < 0 || level > 2) return NO;
        long[] found = null;
        for (int[] plan : q.allowedOnes()) {
            if (!q.feasible(plan, q.fact, r)) continue;
            long[] s = q.score(plan, q.fact, r);
            if (found == null || better(s, found)) found = s;
        }
        return found == null ? NO : found[level];
    }

    private static int[] bestWith(PlainProblem q, int v, int value) {
        List<int[]> some = new ArrayList<>();
        for (int[] plan : q.feasibles()) if (plan[v] == value) some.add(plan);
        return some.isEmpty() ? null : q.bests(some).get(0);
    }

    public long whyNot(int p, int v, int value, int level) {
        PlainProblem q = withVar(p, v);
        if (q == null || level < 0 || level > 2) return NO;
        int[] plan = bestWith(q, v, value);
        return plan == null ? NO : q.score(plan, q.fact)[level];
    }

    public int because(int p, int v, int value) {
        PlainProblem q = withVar(p, v);
        if (q == null) return NONE;
        int[] plan = bestWith(q, v, value);
        if (plan == null) return NONE;
        int[] first = chosen(q, true).get(0);
        for (int r = 0; r < q.rules.size(); r++) {
            Num says = q.rules.get(r).says;
            if (says.of(plan, q.fact) > says.of(first, q.fact)) return r;
        }
        return NONE;
    }

    // ---- futures

    public int future(int p, int odds) {
        PlainProblem q = at(p);
        if (q == null || odds < 1 || odds > 100) return NONE;
        if (q.futures.size() == 6) return FULL;
        PlainFuture u = new PlainFuture();
        u.odds = odds;
        q.futures.add(u);
        return q.futures.size() - 1;
    }

    public boolean told(int p, int u, int f, int value) {
        PlainProblem q = at(p);
        if (q == null || u < 0 || u >= q.futures.size() || f < 0 || f >= q.facts.size()) return false;
        if (value < -9999 || value > 9999) return false;
        q.futures.get(u).told.put(f, value);
        return true;
    }

    public int unfold(int p) {
        PlainProblem q = at(p);
        if (q == null) return NONE;
        int n = q.futures.size();
        q.futures.clear();
        return n;
    }

    private static long[] sums(PlainProblem q, int[] plan) {
        long[] all = new long[3];
        for (PlainFuture u : q.futures) {
            long[] s = q.score(plan, q.factsIn(u));
            for (int level = 0; level < 3; level++) all[level] += u.odds * s[level];
        }
        return all;
    }

    public int robust(int p) {
        PlainProblem q = at(p);
        if (q == null) return NONE;
        if (q.futures.isEmpty()) return 0;
        int[] found = null;
        for (int[] plan : q.allowedOnes()) {
            boolean always = true;
            for (PlainFuture u : q.futures) always &= q.feasible(plan, q.factsIn(u));
            if (always && (found == null || better(sums(q, plan), sums(q, found)))) found = plan;
        }
        if (found == null) return 0;
        q.hand = found;
        return 1;
    }

    public long expected(int p, int level) {
        PlainProblem q = at(p);
        if (q == null || q.futures.isEmpty() || level < 0 || level > 2) return NO;
        long odds = 0;
        for (PlainFuture u : q.futures) odds += u.odds;
        show(sums(q, q.hand)[level], odds);
        return sums(q, q.hand)[level];
    }

    public long regret(int p, int level) {
        PlainProblem q = at(p);
        if (q == null || q.futures.isEmpty() || level < 0 || level > 2) return NO;
        long most = NO;
        for (PlainFuture u : q.futures) {
            int[] fs = q.factsIn(u);
            Long least = null;
            for (int[] plan : q.allowedOnes()) {
                if (!q.feasible(plan, fs)) continue;
                long s = q.score(plan, fs)[level];
                if (least == null || s < least) least = s;
            }
            if (least == null) return NO;
            most = Math.max(most, q.score(q.hand, fs)[level] - least);
        }
        return most;
    }

    // ---- searches

    private int z;

    private int draw(int n) {
        z = z * 1664525 + 1013904223;
        return (z >>> 8) % n;
    }

    private static int indexOf(int[] range, int x) {
        for (int k = 0; k < range.length; k++) if (range[k] == x) return k;
        return -1;
    }

    private static long worth(long[] s) {
        return 10000 * s[0] + 100 * s[1] + s[2];
    }

    public int search(int p, int how, int length, int seed, int steps) {
        PlainProblem q = at(p);
        int[] tops = {0, 20, 100, 10000};
        if (q == null || steps < 0 || steps > 2000 || how < 0 || how > 3) return NONE;
        if (how > 0 && (length < 1 || length > tops[how])) return NONE;
        List<Integer> free = new ArrayList<>();
        for (int v = 0; v < q.vars.size(); v++) if (!q.pinned[v] && q.ranges.get(v).length > 1) free.add(v);
        searched = new int[] {1, seed, NONE};
        if (free.isEmpty()) return 0;
        z = seed;
        int[] current = q.hand.clone();
        int[] kept = q.hand.clone();
        long[][] row = new long[Math.max(1, how == 1 ? length : 1)][];
        Arrays.fill(row, q.score(q.hand, q.fact));
        Map<Integer, Integer> changedAt = new HashMap<>();
        int taken = 0;
        for (int s = 0; s < steps; s++) {
            int k = draw(4);
            int[] fresh = current.clone();
            List<Integer> touched = new ArrayList<>();
            if (k < 3) {
                int v = free.get(draw(free.size()));
                int[] range = q.ranges.get(v);
                int place = draw(range.length - 1);
                if (place >= indexOf(range, current[v])) place++;
                fresh[v] = range[place];
                touched.add(v);
            } else {
                int v = free.get(draw(free.size()));
                int w = free.get(draw(free.size()));
                if (v == w) continue;
                if (indexOf(q.ranges.get(v), current[w]) < 0 || indexOf(q.ranges.get(w), current[v]) < 0) continue;
                fresh[v] = current[w];
                fresh[w] = current[v];
                touched.add(v);
                touched.add(w);
            }
            long[] now = q.score(current, q.fact);
            long[] then = q.score(fresh, q.fact);
            boolean takes = false;
            if (how == 0) takes = !better(now, then);
            if (how == 1) takes = !better(now, then) || !better(row[s % length], then);
            if (how == 2) {
                boolean may = true;
                for (int v : touched) if (changedAt.containsKey(v) && s <= changedAt.get(v) + length) may = false;
                if (better(then, q.score(kept, q.fact))) may = true;
                if (may) takes = !better(now, then) || draw(8) == 0;
            }
            if (how == 3) takes = worth(then) - worth(now) <= length - length * s / steps;
            if (takes) {
                taken++;
                current = fresh;
                searched[0] = 31 * searched[0] + k;
                for (int v : touched) changedAt.put(v, s);
                if (better(then, q.score(kept, q.fact))) {
                    kept = fresh;
                    searched[2] = s;
                }
            }
            if (how == 1) row[s % length] = q.score(current, q.fact);
        }
        searched[1] = z;
        q.hand = kept;
        return taken;
    }

    public int searched(int what) {
        return searched == null || what < 0 || what > 2 ? NONE : searched[what];
    }

    // ---- proofs

    private static final class Prover {
        final PlainProblem p;
        final List<Token> tokens;
        int at = 0;

        Prover(PlainProblem p, String text) {
            this.p = p;
            tokens = tokens(text);
        }

        Token now() {
            return tokens.get(at);
        }

        Fault off() {
            return new Fault(now().kind == 'x' ? 1 : 2, now().place);
        }

        void want(String t) throws Fault {
            if (now().kind != 's' || !now().text.equals(t)) throw off();
            at++;
        }

        List<int[]> fitting(Integer[] given) {
            List<int[]> some = new ArrayList<>();
            for (int[] plan : p.plans()) {
                boolean fits = true;
                for (int v = 0; v < given.length; v++) if (given[v] != null && given[v] != plan[v]) fits = false;
                if (fits) some.add(plan);
            }
            return some;
        }

        void tree(Integer[] given) throws Fault {
            Token t = now();
            if (t.kind == 'n') {
                int v = p.vars.indexOf(t.text);
                if (v < 0 || given[v] != null) throw new Fault(4, t.place);
                at++;
                boolean first = true;
                for (int x : p.ranges.get(v)) {
                    want(first ? "(" : ",");
                    first = false;
                    Integer[] more = given.clone();
                    more[v] = x;
                    tree(more);
                }
                want(")");
            } else if (t.kind == 's' && t.text.equals("!")) {
                at++;
                if (now().kind != 'n') throw off();
                Num says = null;
                for (Part r : p.rules) if (r.name.equals(now().text) && r.level == 0) says = r.says;
                if (says == null) throw new Fault(4, now().place);
                for (int[] plan : fitting(given)) if (says.of(plan, p.fact) == 0) throw new Fault(8, t.place);
                at++;
            } else if (t.kind == 's' && t.text.equals(".")) {
                List<int[]> some = fitting(given);
                if (Arrays.asList(given).contains(null)) throw new Fault(8, t.place);
                if (p.feasible(some.get(0), p.fact)
                    && better(p.score(some.get(0), p.fact), p.score(p.hand, p.fact))) throw new Fault(8, t.place);
                at++;
            } else if (t.kind == 's' && t.text.equals("<")) {
                long[] bound = new long[3];
                List<int[]> some = fitting(given);
                for (Part r : p.rules) bound[r.level] += r.weight * least(r, some);
                for (Part a : p.aims) bound[a.level] += least(a, some);
                if (better(bound, p.score(p.hand, p.fact))) throw new Fault(8, t.place);
                at++;
            } else {
                throw off();
            }
        }

        long least(Part part, List<int[]> some) {
            long found = Long.MAX_VALUE;
            for (int[] plan : some) found = Math.min(found, part.says.of(plan, p.fact));
            return found;
        }
    }

    public int check(int p) {
        PlainProblem q = at(p);
        if (q == null) return FULL;
        Prover prover = new Prover(q, tape.toString());
        Integer[] given = new Integer[q.vars.size()];
        for (int v = 0; v < given.length; v++) if (q.pinned[v]) given[v] = q.hand[v];
        try {
            prover.tree(given);
            if (prover.now().kind != 'e') throw prover.off();
            fault = 0;
            return 0;
        } catch (Fault f) {
            fault = f.code;
            return -1 - f.place;
        }
    }

    private static String proof(PlainProblem q, int v) {
        if (v == q.vars.size()) return ".";
        if (q.pinned[v]) return proof(q, v + 1);
        String inner = proof(q, v + 1);
        StringBuilder all = new StringBuilder(q.vars.get(v)).append('(').append(inner);
        for (int k = 1; k < q.ranges.get(v).length; k++) all.append(',').append(inner);
        return all.append(')').toString();
    }

    public int prove(int p) {
        PlainProblem q = at(p);
        if (q == null) return NONE;
        for (int[] plan : q.feasibles()) if (better(q.score(plan, q.fact), q.score(q.hand, q.fact))) return NONE;
        String text = proof(q, 0);
        if (text.length() > 20000) return NONE;
        tape.setLength(0);
        tape.append(text);
        return tape.length();
    }

    public long above() {
        return above;
    }

    public long below() {
        return below;
    }

    // ---- the store

    private static String number(long x, int n) {
        StringBuilder s = new StringBuilder();
        for (int i = n - 1; i >= 0; i--) s.append((char) (x >>> 8 * i & 255));
        return s.toString();
    }

    private static String sum(String bytes) {
        long s = 0;
        for (char b : bytes.toCharArray()) s = Long.rotateLeft(s ^ b, 53) * 0xC2B2AE3D27D4EB4FL;
        return number(s, 8);
    }

    private String all() {
        return String.join("", rows);
    }

    public int save(int p) {
        PlainProblem q = at(p);
        if (q == null) return NONE;
        StringBuilder row = new StringBuilder();
        row.append((char) 211).append(number(q.text.length(), 2)).append(q.text);
        for (int f = 0; f < q.facts.size(); f++) row.append(number(q.fact[f], 4));
        int pins = 0;
        for (int v = 0; v < q.hand.length; v++) {
            row.append(number(q.hand[v], 1)).append(number(q.cost[v], 2));
            if (q.pinned[v]) pins |= 1 << v;
        }
        row.append(number(pins, 2));
        row.append(sum(row.toString()));
        if (rows.size() == 100 || size() + row.length() > 19990) return FULL;
        rows.add(row.toString());
        latestRows = 1;
        return rows.size() - 1;
    }

    /** Reads a row that begins at a place: how long it is, or 0 when it is not right; the problem in into[0]. */
    private static int readRow(String s, int at, PlainProblem[] into) {
        try {
            if (s.charAt(at) != 211) return 0;
            int n = s.charAt(at + 1) * 256 + s.charAt(at + 2);
            PlainProblem q = new Parser(s.substring(at + 3, at + 3 + n)).problem();
            int i = at + 3 + n;
            for (int f = 0; f < q.facts.size(); f++) {
                q.fact[f] = s.charAt(i) << 24 | s.charAt(i + 1) << 16 | s.charAt(i + 2) << 8 | s.charAt(i + 3);
                if (q.fact[f] < -9999 || q.fact[f] > 9999) return 0;
                i += 4;
            }
            for (int v = 0; v < q.vars.size(); v++) {
                int x = s.charAt(i) > 127 ? s.charAt(i) - 256 : s.charAt(i);
                if (indexOf(q.ranges.get(v), x) < 0) return 0;
                q.hand[v] = x;
                q.cost[v] = s.charAt(i + 1) * 256 + s.charAt(i + 2);
                if (q.cost[v] > 1000) return 0;
                i += 3;
            }
            int pins = s.charAt(i) * 256 + s.charAt(i + 1);
            i += 2;
            if (pins >= 1 << q.vars.size()) return 0;
            for (int v = 0; v < q.vars.size(); v++) q.pinned[v] = (pins >> v & 1) != 0;
            if (!sum(s.substring(at, i)).equals(s.substring(i, i + 8))) return 0;
            into[0] = q;
            return i + 8 - at;
        } catch (Fault | StringIndexOutOfBoundsException e) {
            return 0;
        }
    }

    public int load(int k) {
        if (k < 0 || k >= rows.size()) return NONE;
        int p = free();
        if (p < 0) return FULL;
        PlainProblem[] into = new PlainProblem[1];
        readRow(rows.get(k), 0, into);
        problems[p] = into[0];
        return p;
    }

    public int rows() {
        return rows.size();
    }

    public int size() {
        return all().length();
    }

    public int byteAt(int i) {
        return i < 0 || i >= size() ? NONE : all().charAt(i);
    }

    public int crash(int n) {
        if (n < 0) return NONE;
        List<String> old = new ArrayList<>(rows.subList(0, rows.size() - latestRows));
        List<String> written = new ArrayList<>(rows.subList(rows.size() - latestRows, rows.size()));
        rows.clear();
        rows.addAll(old);
        int room = n;
        for (String row : written) {
            if (row.length() > room) break;
            room -= row.length();
            rows.add(row);
        }
        latestRows = 0;
        return rows.size();
    }

    public int take() {
        tape.setLength(0);
        tape.append(number(rows.size(), 2)).append(all());
        tape.append(sum(tape.toString()));
        return tape.length();
    }

    public int bring() {
        String s = tape.toString();
        if (s.length() < 10) return NONE;
        int body = s.length() - 8;
        if (!sum(s.substring(0, body)).equals(s.substring(body))) return NONE;
        int n = s.charAt(0) * 256 + s.charAt(1);
        List<String> some = new ArrayList<>();
        int at = 2;
        for (int i = 0; i < n; i++) {
            if (at >= body) return NONE;
            int wide = readRow(s.substring(0, body), at, new PlainProblem[1]);
            if (wide == 0) return NONE;
            some.add(s.substring(at, at + wide));
            at += wide;
        }
        if (at != body) return NONE;
        if (rows.size() + n > 100 || size() + at - 2 > 19990) return FULL;
        rows.addAll(some);
        if (n > 0) latestRows = n;
        tape.setLength(0);
        return n;
    }
}
