import java.nio.charset.StandardCharsets;

/** What all tests of the project share: answers that are due, and texts that are typed. */
final class Due {
    private static int asked = 0;
    private static int wrong = 0;
    private static String about = "";

    private Due() {}

    /** The sentence of the document that the next calls are about is told with what is wrong. */
    static void about(String sentence) {
        about = sentence;
    }

    private static void isWrong(String told) {
        wrong++;
        if (wrong > 50) return;
        if (!about.isEmpty()) System.out.println("[" + about + "]");
        System.out.println(told);
    }

    static void is(String call, long got, long want) {
        asked++;
        if (got == want) return;
        isWrong(call.substring(0, Math.min(300, call.length())) + " answered " + got + ", due is " + want);
    }

    static void is(String call, boolean got, boolean want) {
        is(call, got ? 1 : 0, want ? 1 : 0);
    }

    /** Types a text, eight bytes a call. */
    static void type(PlanningHouse house, String text) {
        byte[] bytes = text.getBytes(StandardCharsets.ISO_8859_1);
        for (int i = 0; i < bytes.length; i += 8) {
            int n = Math.min(8, bytes.length - i);
            long w = 0;
            for (int j = 0; j < n; j++) w = w << 8 | bytes[i + j] & 255;
            house.type(w, n);
        }
    }

    /** Types a text on an empty tape and reads it: what problem() answers. */
    static int read(PlanningHouse house, String text) {
        house.cut(0);
        type(house, text);
        return house.problem();
    }

    /** A new house whose problem 0 has this text. */
    static PlanningHouse of(String text) {
        PlanningHouse house = new PlanningHouse();
        is("problem() of " + text, read(house, text), 0);
        return house;
    }

    /** A text that is read: its fault is 0, and the tape is empty behind it. */
    static void fine(String text) {
        PlanningHouse x = of(text);
        is("fault() of " + text, x.fault(), 0);
        is("the tape behind " + text, x.cut(0), 0);
    }

    /** A text with a fault, whose place is marked by an at sign, which itself is left out. */
    static void fault(String marked, int code) {
        int place = marked.indexOf('@');
        fault(marked.substring(0, place) + marked.substring(place + 1), place, code);
    }

    static void fault(String text, int place, int code) {
        PlanningHouse x = new PlanningHouse();
        is("problem() of " + text, read(x, text), -1 - place);
        is("fault() of " + text, x.fault(), code);
        is("the tape behind " + text, x.cut(0), 0);
        is("no problem behind " + text, x.count(0, 0), PlanningHouse.NONE);
    }

    /** The values of the plan at hand, with blanks between. */
    static String plan(PlanningHouse house, int p) {
        StringBuilder told = new StringBuilder();
        for (int v = 0; v < house.count(p, 1); v++) told.append(v == 0 ? "" : " ").append(house.value(p, v));
        return told.toString();
    }

    static void planIs(PlanningHouse house, int p, String want) {
        same("the plan at hand", plan(house, p), want);
    }

    /** What THE BOARD shows. */
    static void board(PlanningHouse x, long above, long below) {
        is("above()", x.above(), above);
        is("below()", x.below(), below);
    }

    /** The values that are left of a var of problem 0, with blanks between. */
    static void left(PlanningHouse x, int v, String want) {
        StringBuilder got = new StringBuilder();
        for (int k = 0; x.range(0, v, k) != PlanningHouse.NO; k++) {
            if (x.isLeft(0, v, k)) got.append(got.length() == 0 ? "" : " ").append(x.range(0, v, k));
        }
        same("left of var " + v, got.toString(), want);
    }

    /** A proof that is right for the plan at hand of problem 0. */
    static void proved(PlanningHouse x, String proof) {
        checked(x, proof, 0, 0);
    }

    /** A proof with a fault, whose place is marked by an at sign, which itself is left out. */
    static void notProved(PlanningHouse x, String marked, int code) {
        int place = marked.indexOf('@');
        checked(x, marked.substring(0, place) + marked.substring(place + 1), -1 - place, code);
    }

    private static void checked(PlanningHouse x, String proof, int answer, int code) {
        x.cut(0);
        type(x, proof);
        is("check of " + proof, x.check(0), answer);
        is("fault of " + proof, x.fault(), code);
        is("the tape stays behind check of " + proof, x.cut(proof.length()), proof.length());
    }

    static void same(String what, String got, String want) {
        asked++;
        if (!got.equals(want)) isWrong(what + " is " + got + ", due is " + want);
    }

    static String tape(PlanningHouse house) {
        StringBuilder told = new StringBuilder();
        for (int b = house.tapeAt(0); b >= 0; b = house.tapeAt(told.length())) told.append((char) b);
        return told.toString();
    }

    static int wrongSoFar() {
        return wrong;
    }

    static void end() {
        System.out.println(asked + " answers, " + wrong + " not as due");
        if (wrong != 0 || asked == 0) System.exit(1);
    }
}
