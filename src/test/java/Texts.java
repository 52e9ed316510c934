import java.util.ArrayList;
import java.util.List;
import java.util.Random;

/** Makes random texts of problems and proofs, most of them right, some with one thing wrong. */
final class Texts {
    private final Random random;
    private final List<String> facts = new ArrayList<>();
    private final List<String> vars = new ArrayList<>();
    private final List<String> rules = new ArrayList<>();
    private final List<int[]> ranges = new ArrayList<>();
    private int slips;
    private int depth;
    private long plans;
    private int mostPlans;

    Texts(Random random) {
        this.random = random;
    }

    private int upTo(int n) {
        return random.nextInt(n + 1);
    }

    private boolean one(int in) {
        return random.nextInt(in) == 0;
    }

    private String pick(String... some) {
        return some[random.nextInt(some.length)];
    }

    /** A slip is rare, and only made in texts that may have some. */
    private boolean slip() {
        if (slips == 0 || !one(40)) return false;
        slips--;
        return true;
    }

    private String gap() {
        switch (upTo(12)) {
            case 0: return "\n";
            case 1: return "\t";
            case 2: return "% a remark; with = signs\n";
            case 3: return "\r\n ";
            case 4: case 5: return "";
            default: return " ";
        }
    }

    String problem() {
        return problem(one(12) ? 400 : 60);
    }

    String problem(int most) {
        facts.clear();
        vars.clear();
        rules.clear();
        ranges.clear();
        plans = 1;
        mostPlans = most;
        slips = one(4) ? 1 + upTo(2) : 0;
        StringBuilder text = new StringBuilder();
        int nf = upTo(3);
        int nv = 1 + upTo(3);
        int nr = upTo(6);
        int na = upTo(3);
        for (int i = 0; i < nf; i++) text.append(fact()).append(gap());
        for (int i = 0; i < nv; i++) {
            text.append(var()).append(gap());
            if (one(10)) text.append(rule());
        }
        for (int i = 0; i < nr; i++) text.append(rule()).append(gap());
        for (int i = 0; i < na; i++) text.append(aim()).append(gap());
        if (one(10)) text.append(fact());
        if (one(6)) text.append("% the end");
        return one(8) ? spoilt(text) : text.toString();
    }

    private String spoilt(StringBuilder text) {
        int times = 1 + upTo(2);
        for (int i = 0; i < times && text.length() > 0; i++) {
            int at = random.nextInt(text.length());
            switch (upTo(4)) {
                case 0: text.deleteCharAt(at); break;
                case 1: text.setCharAt(at, (char) upTo(255)); break;
                case 2: text.insert(at, ";=#<>+-*()[]{},:&|~!.$_0 9az%".charAt(upTo(28))); break;
                case 3: text.setLength(at); break;
                default: text.insert(at, text.substring(at, Math.min(text.length(), at + 1 + upTo(9)))); break;
            }
        }
        return text.toString();
    }

    private String name(String prefix, int n) {
        if (slip()) return pick("max", "a1234567", "b12345678", "x_y", "var", "9", "a", "r0");
        return prefix + n;
    }

    private String fact() {
        String name = name("f", facts.size());
        facts.add(name);
        return "fact " + name + gap() + "=" + gap() + (one(3) ? "-" + gap() : "") + number(one(5) ? 9999 : 9) + gap() + ";";
    }

    private String number(int top) {
        if (slip()) return pick("10000", "00012", "100", "99", "9999", "1001", "-1", "x");
        String told = Integer.toString(upTo(top));
        return one(15) && told.length() < 4 ? "0" + told : told;
    }

    private String var() {
        String name = name(pick("a", "b", "c", "Var"), vars.size());
        StringBuilder text = new StringBuilder("var ").append(name).append(" in").append(gap());
        int room = (int) Math.max(1, Math.min(20, mostPlans / plans));
        int n = slip() ? 21 : 1 + upTo(Math.min(room, 6) - 1);
        int[] range = new int[n];
        if (one(2)) {
            int first = upTo(14) - 4;
            if (one(10)) first = -99;
            for (int k = 0; k < n; k++) range[k] = first + k;
            text.append(integer(first)).append(gap()).append("..").append(gap()).append(integer(first + n - 1));
        } else {
            text.append("{");
            for (int k = 0; k < n; k++) {
                int x = upTo(12) - 4;
                boolean again = true;
                for (int tries = 0; tries < 200 && again; tries++) {
                    again = false;
                    for (int j = 0; j < k; j++) again |= range[j] == x;
                    if (again) x = upTo(60) - 20;
                }
                if (slip() && k > 0) x = range[0];
                range[k] = x;
                text.append(k == 0 ? "" : ",").append(gap()).append(integer(x));
            }
            text.append("}");
        }
        vars.add(name);
        ranges.add(range);
        plans *= n;
        return text.append(gap()).append(";").toString();
    }

    private String integer(int x) {
        if (slip()) return pick("100", "-100", "- 5", "--1", "f0");
        return x < 0 || x == 0 && one(10) ? "-" + gap() + -x : Integer.toString(x);
    }

    private String rule() {
        String name = name("r", rules.size());
        String level = slip() ? "3" : Integer.toString(one(2) ? 1 + upTo(1) : 0);
        String weight = slip() ? pick("0", "1001") : Integer.toString(one(8) ? 1000 : 1 + upTo(8));
        depth = 0;
        String text = "rule " + name + " at " + level + gap() + "*" + gap() + weight + gap() + ":" + gap() + test() + gap() + ";";
        rules.add(name);
        return text;
    }

    private String aim() {
        depth = 0;
        String level = slip() ? "0" : Integer.toString(1 + upTo(1));
        return "aim " + name("m", upTo(1000)) + " at " + level + ":" + gap() + sum() + ";";
    }

    private String test() {
        depth++;
        String text = either();
        if (one(8)) text += gap() + "->" + gap() + (depth > 6 ? comparison() : test());
        depth--;
        return text;
    }

    private String either() {
        String text = both();
        while (one(6)) text += gap() + "|" + gap() + both();
        return text;
    }

    private String both() {
        String text = unit();
        while (one(6)) text += gap() + "&" + gap() + unit();
        return text;
    }

    private String unit() {
        if (depth > 5) return comparison();
        if (slip()) return deep();
        switch (upTo(14)) {
            case 0: return "~" + gap() + unit();
            case 1: return "{" + gap() + test() + gap() + "}";
            case 2: return "all(" + names(upTo(4) + 1) + ")";
            case 3: return row();
            case 4: return lex();
            case 5: return "ring(" + names(upTo(4) + 1) + ")";
            case 6: return auto();
            case 7: return busy();
            case 8: return apart();
            default: return comparison();
        }
    }

    /** Things that are open, about twelve of them. */
    private String deep() {
        int n = 10 + upTo(4);
        StringBuilder text = new StringBuilder();
        StringBuilder behind = new StringBuilder();
        for (int i = 0; i < n; i++) {
            switch (upTo(2)) {
                case 0: text.append("~"); break;
                case 1:
                    text.append("{");
                    behind.insert(0, "}");
                    break;
                default:
                    text.append("[");
                    behind.insert(0, "] = 1");
                    break;
            }
        }
        return text + pick("1 = 1", "1 = 1 -> 2 = 2", "(1) = -1", "abs(1) = 1") + behind;
    }

    private String comparison() {
        return sum() + gap() + pick("=", "#", "<", "<=", ">", ">=") + gap() + sum();
    }

    private String names(int n) {
        StringBuilder text = new StringBuilder();
        for (int i = 0; i < n; i++) text.append(i == 0 ? "" : ",").append(gap()).append(varName());
        if (slip()) text.append(",").append(varName()).append(",").append(names(10));
        return text.toString();
    }

    private String varName() {
        if (slip()) return pick("f0", "r0", "zz", "abs", "7");
        return vars.isEmpty() ? "nix" : vars.get(random.nextInt(vars.size()));
    }

    private String near() {
        return integer(upTo(8) - 2);
    }

    private String row() {
        int n = 1 + upTo(3);
        StringBuilder text = new StringBuilder("row(").append(names(n)).append(":");
        int rows = slip() ? 41 : 1 + upTo(5);
        for (int r = 0; r < rows; r++) {
            text.append(r == 0 ? "(" : ",(");
            int wide = slip() ? n + 1 : n;
            for (int i = 0; i < wide; i++) text.append(i == 0 ? "" : ",").append(near());
            text.append(")");
        }
        return text.append(")").toString();
    }

    private String lex() {
        int n = 1 + upTo(2);
        return "lex(" + names(n) + gap() + ":" + names(slip() ? n + 1 : n) + ")";
    }

    private String auto() {
        StringBuilder text = new StringBuilder("auto(").append(names(1 + upTo(3))).append(":");
        int arrows = slip() ? 41 : 1 + upTo(9);
        for (int i = 0; i < arrows; i++) {
            text.append(i == 0 ? "(" : ",(").append(state()).append(",").append(near()).append(",").append(state()).append(")");
        }
        text.append(":");
        int states = slip() ? 11 : 1 + upTo(2);
        for (int i = 0; i < states; i++) text.append(i == 0 ? "" : ",").append(state());
        return text.append(")").toString();
    }

    private String state() {
        return slip() ? "10" : Integer.toString(upTo(2));
    }

    private String busy() {
        StringBuilder text = new StringBuilder("busy(").append(number(6)).append(":");
        int n = slip() ? 41 : 1 + upTo(4);
        for (int i = 0; i < n; i++) {
            text.append(i == 0 ? "(" : ",(").append(varName()).append(",").append(number(5)).append(",").append(number(5)).append(")");
        }
        return text.append(")").toString();
    }

    private String apart() {
        StringBuilder text = new StringBuilder("apart(");
        int n = slip() ? 41 : 1 + upTo(4);
        for (int i = 0; i < n; i++) {
            text.append(i == 0 ? "(" : ",(").append(varName()).append(",").append(varName());
            text.append(",").append(number(4)).append(",").append(number(4)).append(")");
        }
        return text.append(")").toString();
    }

    private String sum() {
        depth++;
        String text = term();
        while (one(4)) text += gap() + pick("+", "-") + gap() + term();
        depth--;
        return text;
    }

    private String term() {
        String text = factor();
        while (one(5)) text += gap() + "*" + gap() + factor();
        return text;
    }

    private String factor() {
        if (depth > 6 || one(2)) return leaf();
        switch (upTo(9)) {
            case 0: return "-" + gap() + factor();
            case 1: return "(" + sum() + gap() + ")";
            case 2: return "abs(" + sum() + ")";
            case 3: return "min(" + sums() + ")";
            case 4: return "max (" + sums() + ")";
            case 5: return "pick(" + sum() + ":" + ints() + ")";
            case 6: return "[" + test() + "]";
            default: return leaf();
        }
    }

    private String sums() {
        StringBuilder text = new StringBuilder(sum());
        int n = slip() ? 20 : upTo(2);
        for (int i = 0; i < n; i++) text.append(",").append(n > 5 ? leaf() : sum());
        return text.toString();
    }

    private String ints() {
        StringBuilder text = new StringBuilder(near());
        int n = slip() ? 20 : upTo(4);
        for (int i = 0; i < n; i++) text.append(",").append(near());
        return text.toString();
    }

    private String leaf() {
        if (slip()) return pick("r0", "zz", "in", ")", "m1");
        if (one(3) && !facts.isEmpty()) return facts.get(random.nextInt(facts.size()));
        if (one(3)) return number(one(8) ? 9999 : 6);
        return varName();
    }

    // ---- proofs, for the text that was made last

    String proof() {
        slips = one(3) ? 1 : 0;
        StringBuilder text = new StringBuilder(tree(new ArrayList<>(vars), new ArrayList<>(ranges)));
        return one(8) ? spoilt(text) : text.toString();
    }

    private String tree(List<String> names, List<int[]> of) {
        if (slip()) return pick("..", "!", "! 5", "abs", ")", "zz(.)", "! zz", "! m1", "<=", "$");
        int kind = upTo(9);
        if (names.isEmpty() || kind < 1) return pick(".", "<", ".") + gap();
        if (kind < 2 && !rules.isEmpty()) return "!" + gap() + rules.get(random.nextInt(rules.size()));
        int v = one(3) ? random.nextInt(names.size()) : 0;
        List<String> less = new ArrayList<>(names);
        List<int[]> rest = new ArrayList<>(of);
        String name = slip() ? vars.get(0) : names.get(v);
        less.remove(v);
        rest.remove(v);
        int n = of.get(v).length + (slip() ? 1 : 0);
        StringBuilder text = new StringBuilder(name).append(gap()).append("(");
        for (int k = 0; k < n; k++) text.append(k == 0 ? "" : ",").append(tree(less, rest));
        return text.append(")").toString();
    }
}
