import java.lang.reflect.Method;
import java.nio.charset.StandardCharsets;
import java.util.ArrayList;
import java.util.Arrays;
import java.util.List;
import java.util.Random;

/** Holds random runs of calls against a second, plain reading of the document. */
public final class ModelTest {
    /** What an object answers to later calls is free. */
    private static final int MOST_CALLS = 512;
    private static final String[] CALLS = {
        "cut", "spoil", "tapeAt", "fault", "drop", "count", "find", "letter", "shown", "range", "rule", "fact", "change",
        "value", "put", "pin", "weigh", "broken", "aim", "score", "feasible", "reach", "isLeft", "hopeless", "solve", "best",
        "bests", "bestAt", "feasibles", "feasibleAt", "has", "choices", "mend", "front", "frontAt", "frontPlan", "near",
        "clash", "fewest", "relax", "without", "whyNot", "because", "future", "told", "unfold", "robust", "expected",
        "regret", "search", "searched", "check", "prove", "above", "below", "save", "load", "rows", "size", "byteAt",
        "crash", "take", "bring",
    };

    private final Random random;
    private final Texts texts;
    private final PlanningHouse house = new PlanningHouse();
    private int calls = 0;
    private final PlainHouse plain = new PlainHouse();
    private final List<String> log = new ArrayList<>();
    private boolean same = true;

    private ModelTest(long seed) {
        random = new Random(seed);
        texts = new Texts(random);
    }

    public static void main(String[] args) throws Exception {
        int runs = args.length > 0 ? Integer.parseInt(args[0]) : 3000;
        int first = args.length > 1 ? Integer.parseInt(args[1]) : 0;
        int reads = 0;
        for (int seed = first; seed < first + runs && Due.wrongSoFar() < 5; seed++) {
            ModelTest test = new ModelTest(seed);
            test.run(seed);
            if (!test.same) {
                System.out.println("run " + seed + ":");
                for (String line : test.log) System.out.println("  " + line);
            }
            reads += test.read;
        }
        System.out.println(reads + " texts were problems");
        Due.end();
    }

    private int read = 0;

    private void run(long seed) throws Exception {
        int times = 60 + random.nextInt(60);
        boolean wild = random.nextInt(3) == 0;
        readText();
        for (int i = 0; i < times && same; i++) {
            if (random.nextInt(wild ? 8 : 30) == 0) readText();
            else if (random.nextInt(20) == 0) proof();
            else if (random.nextInt(30) == 0) nameOnTape();
            else if (random.nextInt(30) == 0) export();
            else if (random.nextInt(25) == 0) futures();
            else call(CALLS[random.nextInt(CALLS.length)]);
            if (random.nextInt(6) == 0) lookAtAll();
        }
    }

    private void readText() throws Exception {
        ask("cut", 0);
        type(texts.problem());
        long p = ask("problem");
        if (p >= 0) read++;
        ask("fault");
    }

    private void proof() throws Exception {
        ask("cut", 0);
        int p = random.nextInt(4);
        if (random.nextInt(3) == 0) {
            ask("solve", p);
            ask("prove", p);
        } else {
            type(texts.proof());
        }
        ask("check", p);
        ask("fault");
    }

    /** What the latest call may have changed. */
    private void lookAtAll() throws Exception {
        for (int p = 0; p < 4; p++) {
            for (int v = 0; v < plain.count(p, 1); v++) ask("value", p, v);
            for (int level = 0; level < 3; level++) ask("score", p, level);
        }
        ask("above");
        ask("below");
        ask("rows");
        ask("size");
    }

    /** Some futures with other facts, and all that is asked of them. */
    private void futures() throws Exception {
        int p = aProblem();
        for (int i = random.nextInt(3); i >= 0; i--) {
            ask("future", p, 1 + random.nextInt(100));
            int tells = random.nextInt(3);
            for (int j = 0; j < tells; j++) ask("told", p, of(plain.count(p, 7)), of(plain.count(p, 0)), factValue());
        }
        if (random.nextInt(2) == 0) ask("change", p, of(plain.count(p, 0)), factValue());
        for (int level = 0; level < 3; level++) {
            ask("regret", p, level);
            ask("expected", p, level);
            ask("above");
            ask("below");
        }
        ask("robust", p);
        for (int v = 0; v < plain.count(p, 1); v++) ask("value", p, v);
        ask("regret", p, random.nextInt(3));
    }

    private void nameOnTape() throws Exception {
        ask("cut", 0);
        int p = random.nextInt(2);
        int kind = random.nextInt(4);
        int k = random.nextInt(3);
        StringBuilder name = new StringBuilder();
        for (int i = 0; i < 8 && plain.letter(p, kind, k, i) >= 0; i++) name.append((char) plain.letter(p, kind, k, i));
        if (random.nextInt(5) == 0) name.append(' ');
        type(name.toString());
        ask("find", p);
    }

    /** An export, at times with a byte changed and its sums mended. */
    private void export() throws Exception {
        for (int i = 0; i < random.nextInt(3); i++) ask("save", random.nextInt(2));
        ask("take");
        int n = 0;
        while (plain.tapeAt(n) >= 0) n++;
        if (n == 0) return;
        int kind = random.nextInt(5);
        if (kind == 0) ask("spoil", random.nextInt(n), 1 << random.nextInt(8));
        if (kind == 1) ask("cut", random.nextInt(n));
        if (kind == 2) resummed(n);
        ask("bring");
        ask("rows");
        ask("size");
        if (random.nextInt(2) == 0) ask("crash", random.nextInt(plain.size() + 20));
    }

    private void resummed(int n) throws Exception {
        int[] bytes = new int[n];
        for (int i = 0; i < n; i++) bytes[i] = plain.tapeAt(i);
        int rowLength = n - 10;
        if (plain.rows() != 1 || rowLength < 20) return;
        int at = 2 + random.nextInt(rowLength - 8);
        if (random.nextInt(2) == 0) at = n - 8 - 8 - 1 - random.nextInt(12);
        bytes[at] ^= 1 << random.nextInt(8);
        sumInto(bytes, 2, n - 16);
        sumInto(bytes, 0, n - 8);
        StringBuilder text = new StringBuilder();
        for (int b : bytes) text.append((char) b);
        ask("cut", 0);
        type(text.toString());
    }

    private static void sumInto(int[] bytes, int from, int to) {
        long s = 0;
        for (int i = from; i < to; i++) s = Long.rotateLeft(s ^ bytes[i], 53) * 0xC2B2AE3D27D4EB4FL;
        for (int i = 0; i < 8; i++) bytes[to + i] = (int) (s >>> 56 - 8 * i & 255);
    }

    private void type(String text) throws Exception {
        byte[] bytes = text.getBytes(StandardCharsets.ISO_8859_1);
        log.add("the text " + text.replace("\n", "\\n").replace("\r", "\\r"));
        for (int i = 0; i < bytes.length; i += 8) {
            int n = Math.min(8, bytes.length - i);
            long w = random.nextInt();
            for (int j = 0; j < n; j++) w = w << 8 | bytes[i + j] & 255;
            ask("type", w, n);
        }
    }

    private int some(int top) {
        return random.nextInt(12) == 0 ? -1 : random.nextInt(top + 1);
    }

    /** The number of one of so many, rarely of none. */
    private int of(int n) {
        return n < 1 || random.nextInt(15) == 0 ? random.nextInt(5) == 0 ? -1 : Math.max(n, 0) : random.nextInt(n);
    }

    private int factValue() {
        int[] edges = {-9999, 9999, -10000, 10000, Integer.MIN_VALUE, Integer.MAX_VALUE};
        return random.nextInt(6) == 0 ? edges[random.nextInt(edges.length)] : random.nextInt(14) - 4;
    }

    private int valueOf(int p, int v) {
        long x = plain.range(p, v, random.nextInt(4));
        return x == PlanningHouse.NO || random.nextInt(8) == 0 ? random.nextInt(20) - 8 : (int) x;
    }

    private int aProblem() {
        int p = random.nextInt(4);
        for (int i = 0; i < 4 && plain.count(p, 1) < 0; i++) p = (p + 1) % 4;
        return p;
    }

    private void call(String name) throws Exception {
        int p = random.nextInt(12) == 0 ? some(4) : aProblem();
        int f = of(plain.count(p, 0));
        int v = of(plain.count(p, 1));
        int r = of(plain.count(p, 2));
        int a = of(plain.count(p, 3));
        int u = of(plain.count(p, 7));
        boolean yes = random.nextBoolean();
        switch (name) {
            case "fault": case "above": case "below": case "rows": case "size": case "take": case "bring":
                ask(name);
                break;
            case "cut":
                ask(name, some(30));
                break;
            case "spoil":
                ask(name, some(60), random.nextInt());
                break;
            case "tapeAt": case "byteAt":
                ask(name, some(200));
                break;
            case "drop":
                if (random.nextInt(4) == 0) ask(name, p);
                break;
            case "count": ask(name, p, some(9)); break;
            case "letter": ask(name, p, some(4), some(4), some(4)); break;
            case "shown": ask(name, p, some(6), some(30)); break;
            case "range": case "isLeft": ask(name, p, v, some(6)); break;
            case "rule": ask(name, p, r, some(4)); break;
            case "fact": ask(name, p, f); break;
            case "aim": ask(name, p, a); break;
            case "value": case "choices": ask(name, p, v); break;
            case "broken": ask(name, p, r); break;
            case "change": ask(name, p, f, factValue()); break;
            case "put": case "because": ask(name, p, v, valueOf(p, v)); break;
            case "pin": ask(name, p, v, yes); break;
            case "weigh": ask(name, p, v, random.nextInt(6) == 0 ? 900 + random.nextInt(200) : some(4)); break;
            case "score": case "best": case "expected": case "regret": ask(name, p, some(3)); break;
            case "bestAt": case "feasibleAt": case "frontPlan": ask(name, p, some(6)); break;
            case "has": ask(name, p, v, valueOf(p, v), yes); break;
            case "mend": ask(name, p, random.nextInt(6) == 0 ? random.nextInt() : random.nextInt(16)); break;
            case "frontAt": ask(name, p, some(4), some(3)); break;
            case "near": ask(name, p, yes); break;
            case "without": ask(name, p, r, some(3)); break;
            case "whyNot": ask(name, p, v, valueOf(p, v), some(3)); break;
            case "future": ask(name, p, random.nextInt(6) == 0 ? 95 + random.nextInt(10) : some(6)); break;
            case "told": ask(name, p, u, f, factValue()); break;
            case "unfold":
                if (random.nextInt(5) == 0) ask(name, p);
                break;
            case "search": search(p); break;
            case "searched": case "load": ask(name, some(3)); break;
            case "crash": ask(name, some(400)); break;
            default: ask(name, p); break;
        }
    }

    private void search(int p) throws Exception {
        int how = some(4);
        int[] tops = {5, 22, 103, 10003};
        int length = how < 0 || how > 3 ? 1 : random.nextInt(3) == 0 ? some(tops[how]) : some(6);
        ask("search", p, how, length, random.nextInt(), random.nextInt(12) == 0 ? 1990 + random.nextInt(20) : some(60));
        for (int what = 0; what < 3; what++) ask("searched", what);
    }

    private long ask(String name, Object... args) throws Exception {
        if (!same || calls == MOST_CALLS) return 0;
        calls++;
        Object[] given = args.clone();
        Class<?>[] types = new Class<?>[given.length];
        for (int i = 0; i < given.length; i++) {
            types[i] = given[i] instanceof Long ? long.class : given[i] instanceof Boolean ? boolean.class : int.class;
        }
        Method here = PlanningHouse.class.getMethod(name, types);
        Method there = PlainHouse.class.getMethod(name, types);
        there.setAccessible(true);
        long got = number(here.invoke(house, given));
        long want = number(there.invoke(plain, given));
        String call = name + Arrays.toString(given);
        log.add(call + " = " + got);
        Due.is(call, got, want);
        same = got == want;
        return got;
    }

    private static long number(Object answer) {
        if (answer instanceof Boolean) return (Boolean) answer ? 1 : 0;
        return ((Number) answer).longValue();
    }
}
