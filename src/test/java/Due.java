import java.nio.charset.StandardCharsets;

/** What all tests of the project share: answers that are due, and texts that are typed. */
final class Due {
    private static int asked = 0;
    private static int wrong = 0;

    private Due() {}

    static void is(String call, long got, long want) {
        asked++;
        if (got == want) return;
        wrong++;
        if (wrong <= 50) System.out.println(call.substring(0, Math.min(300, call.length())) + " answered " + got + ", due is " + want);
    }

    static void is(String call, boolean got, boolean want) {
        is(call, got ? 1 : 0, want ? 1 : 0);
    }

    /** Types a text, eight bytes a call. */
    static void type(PlanningHouse house, String text) {
        byte[] bytes = text.getBytes(StandardCharsets.ISO_8859_1);
        for (int i = 0; i < bytes.length; i += 8) {
            int n = Math.min(8, bytes.length - i);
            long w = 0;
            for (int j = 0; j < n; j++) w = w << 8 | bytes[i + j] & 255;
            house.type(w, n);
        }
    }

    /** Types a text on an empty tape and reads it: what problem() answers. */
    static int read(PlanningHouse house, String text) {
        house.cut(0);
        type(house, text);
        return house.problem();
    }

    /** A new house whose problem 0 has this text. */
    static PlanningHouse of(String text) {
        PlanningHouse house = new PlanningHouse();
        is("problem() of " + text, read(house, text), 0);
        return house;
    }

    /** The values of the plan at hand, with blanks between. */
    static String plan(PlanningHouse house, int p) {
        StringBuilder told = new StringBuilder();
        for (int v = 0; v < house.count(p, 1); v++) told.append(v == 0 ? "" : " ").append(house.value(p, v));
        return told.toString();
    }

    static void planIs(PlanningHouse house, int p, String want) {
        String got = plan(house, p);
        asked++;
        if (got.equals(want)) return;
        wrong++;
        System.out.println("the plan at hand is " + got + ", due is " + want);
    }

    static void same(String what, String got, String want) {
        asked++;
        if (got.equals(want)) return;
        wrong++;
        System.out.println(what + " is " + got + ", due is " + want);
    }

    static String tape(PlanningHouse house) {
        StringBuilder told = new StringBuilder();
        for (int i = 0; house.tapeAt(i) != PlanningHouse.NONE; i++) told.append((char) house.tapeAt(i));
        return told.toString();
    }

    static int wrongSoFar() {
        return wrong;
    }

    static void end() {
        System.out.println(asked + " answers, " + wrong + " not as due");
        if (wrong != 0 || asked == 0) System.exit(1);
    }
}
