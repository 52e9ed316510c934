import java.io.IOException;
import java.nio.charset.StandardCharsets;
import java.nio.file.Files;
import java.nio.file.Path;
import java.util.function.Supplier;
import java.util.function.ToLongFunction;

/** What the edge tests share: the sentence that is looked at, and calls that are refused and change nothing. */
final class Edge {
    /** For sentences of the chapter Terms. */
    static final int TERMS = 0;
    private static final Path DOC = Path.of("../shared/DOC.md");
    private static final String SAID = document();

    private Edge() {}

    /** The sentence whose last inputs that are taken and first ones that are refused come next. */
    static void of(int promise, String sentence) {
        Due.about((promise == TERMS ? "Terms: " : "Promise " + promise + ": ") + sentence);
        if (!SAID.isEmpty() && !SAID.contains(folded(sentence))) System.out.println("no such words in the document: " + sentence);
    }

    private static String document() {
        try {
            return Files.exists(DOC) ? folded(Files.readString(DOC, StandardCharsets.UTF_8)) : "";
        } catch (IOException e) {
            return "";
        }
    }

    private static String folded(String words) {
        return words.replaceAll("\\s+", " ");
    }

    /** A house whose problem 0 was as large as may be, was asked all that fills rows, and is dropped. */
    static PlanningHouse used() {
        StringBuilder text = new StringBuilder();
        for (int i = 0; i < 16; i++) text.append("fact F").append(i).append("=9;");
        for (int i = 0; i < 12; i++) text.append("var V").append(i).append(i < 2 ? " in 90..93;" : i < 4 ? " in 7..8;" : " in 7..7;");
        for (int i = 0; i < 24; i++) text.append("rule R").append(i).append(i < 12 ? " at 0*9:V1=90;" : " at 1*9:V0=99;");
        for (int i = 0; i < 6; i++) text.append("aim A").append(i).append(i < 5 ? " at 1:V1*9;" : " at 2:[all(V0,V1,V2)];");
        PlanningHouse x = new PlanningHouse();
        Due.is("a large problem", Due.read(x, text.toString()), 0);
        for (int v = 0; v < 12; v += 3) {
            x.put(0, v, v < 2 ? 93 : 8);
            x.pin(0, v, v > 5);
            x.weigh(0, v, 500);
        }
        for (int u = 0; u < 6; u++) {
            x.future(0, 50);
            x.told(0, u, 0, 70);
            x.told(0, u, 1, 71);
        }
        x.clash(0);
        x.reach(0);
        x.front(0);
        x.solve(0);
        Due.is("it is gone", x.drop(0), true);
        return x;
    }

    /** A house with a problem of every sort of statement, of whose doings all are under way. */
    static PlanningHouse house() {
        PlanningHouse x = used();
        Due.read(x, "fact f=2;fact g=-3;var a in 0..3;var b in{2,-1,5};rule h at 0*1:a#1;rule s at 1*2:a<=f;"
            + "rule t at 2*3:a=b;aim m at 1:a;aim n at 2:b+g;");
        x.change(0, 1, 4);
        x.search(0, 0, 0, 5, 3);
        x.put(0, 0, 2);
        x.put(0, 1, 5);
        x.pin(0, 1, true);
        x.weigh(0, 0, 7);
        x.future(0, 3);
        x.future(0, 5);
        x.told(0, 1, 0, 1);
        x.expected(0, 1);
        x.save(0);
        Due.read(x, "var c in 0..1;");
        x.drop(1);
        Due.read(x, "$");
        Due.type(x, "tape");
        return x;
    }

    static long bit(boolean b) {
        return b ? 1 : 0;
    }

    /** A call that is refused: its answer, and that a house that was not asked is just the same behind it. */
    static void refused(String call, Supplier<PlanningHouse> made, ToLongFunction<PlanningHouse> asked, long want) {
        PlanningHouse x = made.get();
        Due.is(call, asked.applyAsLong(x), want);
        Due.same("all that can be seen behind " + call, state(x), state(made.get()));
    }

    static void refused(String call, ToLongFunction<PlanningHouse> asked, long want) {
        refused(call, Edge::house, asked, want);
    }

    /** What can be seen of a house, by calls that may change it: no call comes behind this. */
    static String state(PlanningHouse x) {
        StringBuilder seen = new StringBuilder();
        seen.append(x.above()).append('/').append(x.below()).append(" fault ").append(x.fault());
        for (int what = 0; what < 3; what++) seen.append(" searched ").append(x.searched(what));
        seen.append(" rows ").append(x.rows()).append(" size ").append(x.size()).append(" tape");
        for (int i = 0; i < 24; i++) seen.append(' ').append(x.tapeAt(i));
        seen.append(" of ").append(x.cut(0));
        for (int p = 0; p < 4; p++) problem(x, p, seen);
        for (int i = 0; i < 4; i++) seen.append(' ').append(x.byteAt(x.size() - 1 - i));
        seen.append(" crash ").append(x.crash(0)).append(" size ").append(x.size());
        return seen.toString();
    }

    private static void problem(PlanningHouse x, int p, StringBuilder seen) {
        seen.append("; ").append(p);
        if (x.count(p, 1) < 0) return;
        for (int what = 0; what < 9; what++) seen.append(' ').append(x.count(p, what));
        for (int f = 0; f < x.count(p, 0); f++) seen.append(" fact ").append(x.fact(p, f));
        for (int level = 0; level < 3; level++) {
            seen.append(" score ").append(x.score(p, level)).append(' ').append(x.expected(p, level));
            seen.append(" best ").append(x.best(p, level)).append(' ').append(x.regret(p, level));
        }
        for (int v = 0; v < x.count(p, 1); v++) {
            seen.append(" var ").append(x.value(p, v)).append(' ').append(x.pin(p, v, false)).append(' ').append(x.weigh(p, v, 0));
        }
    }
}
