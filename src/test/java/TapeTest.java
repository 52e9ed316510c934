/** Promises 1 to 5, and 57 and 58 as they are at first: a new object and the tape. */
public final class TapeTest {
    public static void main(String[] args) {
        newObject();
        typing();
        cutting();
        spoiling();
        full();
        Due.end();
    }

    private static void newObject() {
        PlanningHouse x = new PlanningHouse();
        Due.is("tapeAt(0)", x.tapeAt(0), PlanningHouse.NONE);
        Due.is("cut(0)", x.cut(0), 0);
        for (int p = -1; p <= 4; p++) Due.is("count of none", x.count(p, 1), PlanningHouse.NONE);
        Due.is("rows()", x.rows(), 0);
        Due.is("size()", x.size(), 0);
        Due.is("byteAt(0)", x.byteAt(0), PlanningHouse.NONE);
        Due.is("fault()", x.fault(), 0);
        for (int what = 0; what < 3; what++) Due.is("searched", x.searched(what), PlanningHouse.NONE);
        Due.is("above()", x.above(), 0);
        Due.is("below()", x.below(), 1);
        Due.is("NONE", PlanningHouse.NONE, -1);
        Due.is("NO", PlanningHouse.NO, Long.MIN_VALUE);
        Due.is("FULL", PlanningHouse.FULL, -100000);
    }

    private static void typing() {
        PlanningHouse x = new PlanningHouse();
        Due.is("type(abc)", x.type(0x616263L, 3), 3);
        Due.same("the tape", Due.tape(x), "abc");
        Due.is("type of the lowest byte", x.type(0x1FFL, 1), 4);
        Due.is("a byte above 127", x.tapeAt(3), 255);
        Due.is("type of eight", x.type(0x8122334455667780L, 8), 12);
        Due.is("the highest first", x.tapeAt(4), 0x81);
        Due.is("the lowest last", x.tapeAt(11), 0x80);
        Due.is("type(-1, 2)", x.type(-1L, 2), 14);
        Due.is("n 0", x.type(1L, 0), PlanningHouse.NONE);
        Due.is("n 9", x.type(1L, 9), PlanningHouse.NONE);
        Due.is("n -1", x.type(1L, -1), PlanningHouse.NONE);
        Due.is("n least", x.type(1L, Integer.MIN_VALUE), PlanningHouse.NONE);
        Due.is("behind the end", x.tapeAt(14), PlanningHouse.NONE);
        Due.is("before the beginning", x.tapeAt(-1), PlanningHouse.NONE);
        Due.is("far off", x.tapeAt(Integer.MAX_VALUE), PlanningHouse.NONE);
    }

    private static void cutting() {
        PlanningHouse x = new PlanningHouse();
        Due.type(x, "abcdef");
        Due.is("cut(7)", x.cut(7), PlanningHouse.NONE);
        Due.is("cut(-1)", x.cut(-1), PlanningHouse.NONE);
        Due.is("cut(6)", x.cut(6), 6);
        Due.is("cut(2)", x.cut(2), 6);
        Due.same("the tape", Due.tape(x), "ab");
        Due.is("cut(3)", x.cut(3), PlanningHouse.NONE);
        Due.is("type behind it", x.type('z', 1), 3);
        Due.same("the tape", Due.tape(x), "abz");
        Due.is("cut(0)", x.cut(0), 3);
        Due.is("cut(0) again", x.cut(0), 0);
    }

    private static void spoiling() {
        PlanningHouse x = new PlanningHouse();
        Due.type(x, "ab");
        Due.is("spoil(1, 3)", x.spoil(1, 3), 'a');
        Due.is("its lowest eight bits", x.spoil(0, 0x7FFFFF80), 0xE1);
        Due.is("it stays", x.tapeAt(0), 0xE1);
        Due.is("by -1", x.spoil(0, -1), 0x1E);
        Due.is("by 256", x.spoil(0, 256), 0x1E);
        Due.is("spoil(2, 1)", x.spoil(2, 1), PlanningHouse.NONE);
        Due.is("spoil(-1, 1)", x.spoil(-1, 1), PlanningHouse.NONE);
        Due.is("nothing came", x.cut(0), 2);
    }

    /** A proof of 8000 plans fills most of the tape in one call. */
    private static void full() {
        PlanningHouse x = Due.of("var a in 0..19;var b in 0..19;var c in 0..19;");
        Due.is("prove(0)", x.prove(0), 17262);
        for (int n = 17270; n <= 19998; n += 8) Due.is("type", x.type(0L, 8), n);
        Due.is("three more", x.type(0L, 3), PlanningHouse.FULL);
        Due.is("two more", x.type(0L, 2), 20000);
        Due.is("one more", x.type(0L, 1), PlanningHouse.FULL);
        Due.is("NONE comes first", x.type(0L, 9), PlanningHouse.NONE);
        Due.is("the last byte", x.tapeAt(19999), 0);
        Due.is("cut(0)", x.cut(0), 20000);
    }
}
