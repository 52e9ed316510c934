import java.nio.charset.StandardCharsets;
import java.util.ArrayList;
import java.util.Arrays;
import java.util.List;
import java.util.Random;

/** Proofs that differ from right ones by a token, at each place and by each sort of token, against {@code PlainHouse}. */
public final class ProofEditsTest {
    private static final String TEXT = "fact f = 2; var a in 0 .. 2; var b in { 3 , 1 }; var c in -1 .. 0;"
        + "rule h at 0 * 1: a >= b - f; rule k at 0 * 2: a + c >= 0; rule s at 1 * 3: a = b; aim m at 1: a * b; aim n at 2: c;";
    private static final String[] EDITS = "! . < a b c h k s m f zz ( ) , h, a( ,. ! ! .. <= ; -> 5 100000 $ in longname9 %".split(" ");
    private static final int[] FOUND = new int[9];
    private static final Random RANDOM = new Random(56);

    private PlanningHouse house;
    private PlainHouse plain;
    private int calls;

    public static void main(String[] args) {
        for (int pins = 0; pins < 8; pins++) {
            for (int best = 0; best < 2; best++) new ProofEditsTest().all(pins, best == 1);
        }
        for (int code : new int[] {0, 1, 2, 4, 8}) Due.is("proofs with a fault " + code + " were there", FOUND[code] > 50, true);
        System.out.println(Arrays.toString(FOUND) + " proofs with these faults");
        Due.end();
    }

    /** Both houses have the text, the same vars pinned, and the first of the best plans, or the first one, at hand. */
    private void begin(int pins, boolean best) {
        house = new PlanningHouse();
        plain = new PlainHouse();
        calls = 80;
        both(TEXT);
        Due.is("problem()", house.problem(), plain.problem());
        for (int v = 0; v < 3; v++) {
            house.pin(0, v, (pins >> v & 1) != 0);
            plain.pin(0, v, (pins >> v & 1) != 0);
        }
        if (best) Due.is("solve(0)", house.solve(0), plain.solve(0));
    }

    private void both(String text) {
        house.cut(0);
        while (plain.tapeAt(0) >= 0) plain.cut(0);
        byte[] bytes = text.getBytes(StandardCharsets.ISO_8859_1);
        for (byte b : bytes) plain.type(b, 1);
        Due.type(house, text);
        calls += 2 + (bytes.length + 7) / 8;
    }

    private void all(int pins, boolean best) {
        begin(pins, best);
        List<List<String>> proofs = new ArrayList<>();
        proofs.add(whole(pins, 0));
        for (int i = 0; i < 12; i++) proofs.add(random(pins));
        for (List<String> proof : proofs) {
            compare(proof, pins, best);
            for (int at = 0; at <= proof.size(); at++) {
                for (String t : EDITS) {
                    if (proof.size() > 12 && RANDOM.nextInt(6) != 0) continue;
                    List<String> more = new ArrayList<>(proof);
                    more.add(at, t);
                    compare(more, pins, best);
                    if (at == proof.size()) continue;
                    more = new ArrayList<>(proof);
                    more.set(at, t);
                    compare(more, pins, best);
                }
                if (at == proof.size()) continue;
                List<String> less = new ArrayList<>(proof);
                less.remove(at);
                compare(less, pins, best);
            }
        }
    }

    /** The tokens of the proof of all plans one by one, over the vars that are not pinned. */
    private static List<String> whole(int pins, int from) {
        int v = from;
        while (v < 3 && (pins >> v & 1) != 0) v++;
        if (v == 3) return List.of(".");
        List<String> all = new ArrayList<>(List.of("abc".substring(v, v + 1)));
        for (int k = 0; k < (v == 0 ? 3 : 2); k++) {
            all.add(k == 0 ? "(" : ",");
            all.addAll(whole(pins, v + 1));
        }
        all.add(")");
        return all;
    }

    /** A proof that is put together by chance; its trees need not be right. */
    private List<String> random(int pins) {
        List<String> all = new ArrayList<>();
        tree(pins, all);
        return all;
    }

    private void tree(int given, List<String> all) {
        int kind = RANDOM.nextInt(8);
        int v = RANDOM.nextInt(3);
        for (int i = 0; i < 3 && (given >> v & 1) != 0; i++) v = (v + 1) % 3;
        if ((given >> v & 1) != 0) {
            all.add(kind < 5 ? "." : "<");
        } else if (kind == 0) {
            all.addAll(List.of("!", RANDOM.nextBoolean() ? "h" : "k"));
        } else if (kind == 1) {
            all.add("<");
        } else {
            all.add("abc".substring(v, v + 1));
            for (int k = 0; k < (v == 0 ? 3 : 2); k++) {
                all.add(k == 0 ? "(" : ",");
                tree(given | 1 << v, all);
            }
            all.add(")");
        }
    }

    private void compare(List<String> tokens, int pins, boolean best) {
        String proof = String.join(RANDOM.nextBoolean() ? " " : RANDOM.nextBoolean() ? "" : "\n", tokens);
        if (calls + 10 + proof.length() > 512) begin(pins, best);
        both(proof);
        calls += 2;
        int answer = house.check(0);
        Due.is("check of " + proof, answer, plain.check(0));
        Due.is("fault of " + proof, house.fault(), plain.fault());
        FOUND[plain.fault()]++;
    }
}
