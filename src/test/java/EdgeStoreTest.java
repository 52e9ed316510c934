import java.util.function.Supplier;

/** The edges of the store, of exports and of power that fails: promises 59 to 66, and the chapter THE STORE. */
public final class EdgeStoreTest {
    private static final int LEAST = Integer.MIN_VALUE;
    private static final int MOST = Integer.MAX_VALUE;
    private static final String SMALL = "var a in{0};";
    private static final String TEXT = "fact f=0;fact g=1;var a in -99..-98;var b in{99,0};";

    public static void main(String[] args) {
        bytesOfRow();
        twelveVars();
        saved();
        hundredRows();
        roomForBytes();
        loaded();
        bytesOfStore();
        crashOfSave();
        crashOfBring();
        latestWriting();
        taken();
        brought();
        everyByteOfExport();
        tooEarlyOrMore();
        firstByte();
        texts();
        facts();
        values();
        costs();
        pins();
        sums();
        tooManyRows();
        tooManyBytes();
        noneBeforeFull();
        Due.end();
    }

    // ---- bytes

    /** What a row of TEXT has behind its text. */
    private static String state(int f, int g, int a, int costA, int b, int costB, int pins) {
        return Rows.number(f, 4) + Rows.number(g, 4) + Rows.number(a, 1) + Rows.number(costA, 2) + Rows.number(b, 1) + Rows.number(costB, 2) + Rows.number(pins, 2);
    }

    /** A row of SMALL, of 28 bytes. */
    private static String small() {
        return Rows.row(SMALL, Rows.number(0, 1) + Rows.number(1, 2) + Rows.number(0, 2));
    }

    private static PlanningHouse typed(PlanningHouse x, String tape) {
        x.cut(0);
        Due.type(x, tape);
        return x;
    }

    /** A problem whose text has just so many bytes, up to 20000: a long proof is cut off, and becomes a remark. */
    private static int large(PlanningHouse x, int wide) {
        int p = Due.read(x, "var aaa in 0..1;var bbbbbbbb in 0..10;var cccccc in 0..19;var ddd in 0..19;");
        Due.is("prove", x.prove(p), 20000);
        x.drop(p);
        x.spoil(0, 'a' ^ '%');
        x.cut(wide - 1 - SMALL.length());
        Due.type(x, "\n" + SMALL);
        Due.is("a large problem", x.problem(), p);
        Due.is("bytes of its text", x.count(p, 8), wide);
        return p;
    }

    // ---- rows

    private static void bytesOfRow() {
        Edge.of(Edge.TERMS, "211; two bytes: how many bytes its text has; these; of each fact four bytes; of each var, one behind the other,"
            + " one byte (its value, 256 more if it is below 0) and two (its cost); facts below 0 as 2^32 more; two bytes: bits of pinned vars;"
            + " eight: the SUM of all before in the row. Highest byte first.");
        PlanningHouse x = Due.of(TEXT);
        x.change(0, 0, -9999);
        x.change(0, 1, 9999);
        x.weigh(0, 0, 1000);
        x.weigh(0, 1, 0);
        x.save(0);
        String first = Rows.row(TEXT, state(-9999, 9999, -99, 1000, 99, 0, 0));
        Due.same("the row", Rows.stored(x), first);
        Due.is("its first byte", x.byteAt(0), 211);
        Due.is("how long its text is", x.byteAt(1) * 256 + x.byteAt(2), TEXT.length());
        Due.is("a fact below 0", x.byteAt(3 + TEXT.length()), 255);
        Due.is("a value below 0", x.byteAt(3 + TEXT.length() + 8), 157);
        x.change(0, 0, -1);
        x.change(0, 1, 0);
        x.put(0, 0, -98);
        x.put(0, 1, 0);
        x.pin(0, 1, true);
        x.save(0);
        Due.same("both rows", Rows.stored(x), first + Rows.row(TEXT, state(-1, 0, -98, 1000, 0, 0, 2)));
        PlanningHouse y = Due.of(SMALL);
        y.save(0);
        Due.same("a row without facts", Rows.stored(y), small());
        PlanningHouse z = Due.of(" %\u00ff\n" + SMALL + "%");
        z.save(0);
        Due.same("its text with blanks and remarks", Rows.stored(z), Rows.row(" %\u00ff\n" + SMALL + "%", Rows.number(0, 1) + Rows.number(1, 2) + Rows.number(0, 2)));
    }

    private static void twelveVars() {
        Edge.of(Edge.TERMS, "two bytes: bits of pinned vars");
        StringBuilder text = new StringBuilder();
        StringBuilder state = new StringBuilder();
        for (int i = 0; i < 16; i++) {
            text.append("fact f").append(i).append("=").append(i).append(";");
            state.append(Rows.number(i, 4));
        }
        for (int i = 0; i < 12; i++) {
            text.append("var v").append(i).append(" in{-").append(i).append("};");
            state.append(Rows.number(-i, 1)).append(Rows.number(900 + i, 2));
        }
        PlanningHouse x = Due.of(text.toString());
        for (int v = 0; v < 12; v++) {
            x.weigh(0, v, 900 + v);
            x.pin(0, v, v == 0 || v == 11 || v == 8);
        }
        x.save(0);
        String want = Rows.row(text.toString(), state + Rows.number(2048 + 256 + 1, 2));
        Due.is("size", x.size(), want.length());
        for (int i = text.length() - 1; i < want.length(); i++) Due.is("byte " + i, x.byteAt(i), want.charAt(i));
        x.drop(0);
        Due.is("load", x.load(0), 0);
        for (int v = 0; v < 12; v++) {
            Due.is("cost", x.weigh(0, v, 1), 900 + v);
            Due.is("value", x.value(0, v), -v);
            Due.is("pin", x.pin(0, v, false), v == 0 || v == 11 || v == 8);
        }
        for (int f = 0; f < 16; f++) Due.is("fact", x.fact(0, f), f);
    }

    private static void saved() {
        Edge.of(59, "A ROW of the problem as it is (its text, facts, plan at hand, costs, pins; no futures) comes into the store: its number."
            + " NONE without the problem");
        PlanningHouse x = Edge.house();
        Due.is("save", x.save(0), 1);
        Due.is("save", x.save(0), 2);
        Due.is("rows", x.rows(), 3);
        for (int p : new int[] {-1, 1, 4, LEAST, MOST}) Edge.refused("save(" + p + ")", y -> y.save(p), PlanningHouse.NONE);
        x.drop(0);
        Due.is("load", x.load(1), 0);
        Due.is("no futures", x.count(0, 7), 0);
        Due.planIs(x, 0, "2 5");
        Due.is("fact", x.fact(0, 1), 4);
        Due.is("cost", x.weigh(0, 0, 7), 7);
        Due.is("pin", x.pin(0, 1, true), true);
        x.save(0);
        Due.is("the same row again", x.size(), 4 * (x.size() / 4));
    }

    /** A store of so many rows of 28 bytes, and their problem. */
    private static PlanningHouse store(int rows) {
        PlanningHouse x = Due.of(SMALL);
        for (int k = 0; k < rows; k++) Due.is("save", x.save(0), k);
        return x;
    }

    private static void hundredRows() {
        Edge.of(59, "FULL: there are 100, or too many bytes.");
        PlanningHouse x = store(100);
        Due.is("rows", x.rows(), 100);
        Due.is("size", x.size(), 2800);
        Due.is("the last row", x.load(99), 1);
        Due.is("no such row", x.load(100), PlanningHouse.NONE);
        Edge.refused("save with 100 rows", () -> store(100), y -> y.save(0), PlanningHouse.FULL);
        Due.is("save of none with 100 rows", x.save(3), PlanningHouse.NONE);
        x.crash(0);
        Due.is("room again", x.save(0), 99);
    }

    private static PlanningHouse large(int first, int second) {
        PlanningHouse x = new PlanningHouse();
        int p = large(x, first - 16);
        Due.is("save", x.save(p), 0);
        x.drop(p);
        large(x, second - 16);
        return x;
    }

    private static void roomForBytes() {
        Edge.of(Edge.TERMS, "All rows together have at most 20000 - 10 bytes.");
        PlanningHouse x = large(10000, 9990);
        Due.is("just as many as there may be", x.save(0), 1);
        Due.is("size", x.size(), 19990);
        Due.is("take", x.take(), 20000);
        Due.is("the last byte", x.byteAt(19989) >= 0, true);
        Due.is("none behind it", x.byteAt(19990), PlanningHouse.NONE);
        Due.is("any further row", Due.read(x, SMALL), 1);
        Due.is("is too many", x.save(1), PlanningHouse.FULL);
        Edge.refused("one byte too many", () -> large(10000, 9991), y -> y.save(0), PlanningHouse.FULL);
        Edge.refused("many too many", () -> large(10000, 12000), y -> y.save(0), PlanningHouse.FULL);
        PlanningHouse y = new PlanningHouse();
        large(y, 19990 - 16);
        Due.is("one row of all bytes", y.save(0), 0);
        Due.is("size", y.size(), 19990);
        y.crash(0);
        y.drop(0);
        large(y, 19990 - 15);
        Due.is("one byte more", y.save(0), PlanningHouse.FULL);
        Due.is("rows", y.rows(), 0);
    }

    private static PlanningHouse four() {
        PlanningHouse x = Edge.house();
        for (int p = 1; p < 4; p++) Due.read(x, SMALL);
        return x;
    }

    private static void loaded() {
        Edge.of(60, "Row k becomes a problem: its number (the least that is free). NONE when there is no such row; FULL: there are 4.");
        PlanningHouse x = store(3);
        for (int k : new int[] {-1, 3, 99, 100, LEAST, MOST}) Due.is("load(" + k + ")", x.load(k), PlanningHouse.NONE);
        Due.is("load", x.load(2), 1);
        Due.is("load", x.load(0), 2);
        x.drop(0);
        Due.is("the least that is free", x.load(1), 0);
        Due.is("load", x.load(1), 3);
        Due.is("a fifth", x.load(1), PlanningHouse.FULL);
        Edge.refused("load with four", EdgeStoreTest::four, y -> y.load(0), PlanningHouse.FULL);
        for (int k : new int[] {-1, 1}) Edge.refused("load of none with four", EdgeStoreTest::four, y -> y.load(k), PlanningHouse.NONE);
    }

    private static void bytesOfStore() {
        Edge.of(61, "How many rows the store has.");
        Edge.of(62, "How many bytes all rows have.");
        Edge.of(63, "Byte i of them, one row behind the other; NONE when there is none.");
        PlanningHouse x = new PlanningHouse();
        for (int i : new int[] {-1, 0, 1, LEAST, MOST}) Due.is("byteAt of an empty store", x.byteAt(i), PlanningHouse.NONE);
        PlanningHouse y = store(2);
        Due.is("rows", y.rows(), 2);
        Due.is("size", y.size(), 56);
        Due.is("the first byte", y.byteAt(0), 211);
        Due.is("the second row's", y.byteAt(28), 211);
        Due.is("the last one", y.byteAt(55), small().charAt(27));
        for (int i : new int[] {-1, 56, 57, 20000, LEAST, MOST}) Due.is("byteAt(" + i + ")", y.byteAt(i), PlanningHouse.NONE);
        y.crash(0);
        Due.is("a byte that is gone", y.byteAt(28), PlanningHouse.NONE);
        Due.is("the last one now", y.byteAt(27), small().charAt(27));
    }

    // ---- power that fails

    private static void crashOfSave() {
        Edge.of(64, "of the bytes that the latest save() or bring() wrote (that made a row, since the latest crash()) the first n are there;"
            + " its rows that are not wholly there are gone. How many rows there are; NONE: n is below 0.");
        for (int n : new int[] {-1, -28, LEAST}) Edge.refused("crash(" + n + ")", x -> x.crash(n), PlanningHouse.NONE);
        for (int n : new int[] {0, 1, 27, 28, 29, MOST}) {
            PlanningHouse x = store(3);
            int rows = n < 28 ? 2 : 3;
            Due.is("crash(" + n + ")", x.crash(n), rows);
            Due.is("rows", x.rows(), rows);
            Due.is("size", x.size(), 28 * rows);
            Due.is("the first ones are there", x.load(1), 1);
            Due.is("the last one", x.load(2), rows == 3 ? 2 : PlanningHouse.NONE);
            Due.is("nothing more can go", x.crash(0), rows);
            Due.is("the next row", x.save(0), rows);
            Due.is("it can go", x.crash(0), rows);
        }
        PlanningHouse y = store(1);
        Due.is("crash(-1) is none", y.crash(-1), PlanningHouse.NONE);
        Due.is("the one row goes", y.crash(27), 0);
        Due.is("size", y.size(), 0);
        Due.is("an empty store", y.crash(0), 0);
    }

    /** A store of one row, behind which three more of 28 bytes are brought. */
    private static PlanningHouse broughtThree() {
        PlanningHouse x = typed(store(1), Rows.export(3, small().repeat(3)));
        Due.is("bring", x.bring(), 3);
        return x;
    }

    private static void crashOfBring() {
        Edge.of(64, "its rows that are not wholly there are gone");
        int[] bytes = {0, 27, 28, 29, 55, 56, 57, 83, 84, 85, MOST};
        int[] rows = {1, 1, 2, 2, 2, 3, 3, 3, 4, 4, 4};
        for (int i = 0; i < bytes.length; i++) {
            PlanningHouse x = broughtThree();
            Due.is("crash(" + bytes[i] + ")", x.crash(bytes[i]), rows[i]);
            Due.is("rows", x.rows(), rows[i]);
            Due.is("size", x.size(), 28 * rows[i]);
            Due.is("again", x.crash(0), rows[i]);
            Due.is("the last row", x.load(rows[i] - 1), 1);
            Due.is("no more", x.load(rows[i]), PlanningHouse.NONE);
        }
        // rows of several lengths: 28, 62 and 28 bytes
        String other = Rows.row(TEXT, state(1, 2, -98, 3, 0, 4, 3));
        for (int n : new int[] {27, 28, 27 + other.length(), 28 + other.length(), 55 + other.length(), 56 + other.length()}) {
            PlanningHouse x = typed(store(2), Rows.export(3, small() + other + small()));
            Due.is("bring", x.bring(), 3);
            int left = n < 28 ? 0 : n < 28 + other.length() ? 1 : n < 56 + other.length() ? 2 : 3;
            Due.is("crash(" + n + ")", x.crash(n), 2 + left);
            Due.is("size", x.size(), 28 * (2 + Math.min(left, 1)) + (left > 1 ? other.length() : 0) + (left > 2 ? 28 : 0));
        }
    }

    private static void latestWriting() {
        Edge.of(64, "Without such a call nothing is gone.");
        PlanningHouse x = new PlanningHouse();
        Due.is("an empty store", x.crash(0), 0);
        PlanningHouse y = store(2);
        y.save(3);
        y.take();
        y.load(0);
        typed(y, Rows.export(0, ""));
        Due.is("bring of no rows", y.bring(), 0);
        typed(y, "no export");
        Due.is("bring of none", y.bring(), PlanningHouse.NONE);
        Due.is("the second save was the latest that made a row", y.crash(27), 1);
        Due.is("bring of no rows", typed(y, Rows.export(0, "")).bring(), 0);
        Due.is("it made none", y.crash(0), 1);
        PlanningHouse z = store(100);
        Due.is("a save that is FULL", z.save(0), PlanningHouse.FULL);
        z.take();
        Due.is("a bring that is FULL", z.bring(), PlanningHouse.FULL);
        Due.is("the last save was the latest", z.crash(0), 99);
        PlanningHouse w = broughtThree();
        w.save(0);
        Due.is("only the latest call's", w.crash(0), 4);
        Due.is("not the one before", w.crash(0), 4);
    }

    // ---- exports

    private static void taken() {
        Edge.of(65, "The tape becomes AN EXPORT of the store: how many bytes it has.");
        PlanningHouse x = typed(new PlanningHouse(), "something longer than the export is");
        Due.is("take of an empty store", x.take(), 10);
        Due.same("the tape", Due.tape(x), Rows.export(0, ""));
        PlanningHouse y = typed(store(1), "x");
        Due.is("take", y.take(), 38);
        Due.same("the tape", Due.tape(y), Rows.export(1, small()));
        Due.is("rows stay", y.rows(), 1);
        PlanningHouse z = store(100);
        Due.is("take", z.take(), 2810);
        Due.is("how many rows", z.tapeAt(0) * 256 + z.tapeAt(1), 100);
    }

    private static void brought() {
        Edge.of(66, "its rows come behind those that there are: how many; the tape is empty then.");
        PlanningHouse x = typed(new PlanningHouse(), Rows.export(0, ""));
        Due.is("no rows", x.bring(), 0);
        Due.is("the tape is empty", x.cut(0), 0);
        Due.is("an empty tape is no export", x.bring(), PlanningHouse.NONE);
        String other = Rows.row(TEXT, state(-7, 8, -98, 9, 0, 10, 1));
        PlanningHouse y = typed(store(1), Rows.export(2, other + small()));
        Due.is("two rows", y.bring(), 2);
        Due.is("the tape is empty", y.cut(0), 0);
        Due.same("the store", Rows.stored(y), small() + other + small());
        Due.is("load", y.load(1), 1);
        Due.planIs(y, 1, "-98 0");
        Due.is("fact", y.fact(1, 0), -7);
        Due.is("fact", y.fact(1, 1), 8);
        Due.is("cost", y.weigh(1, 0, 1), 9);
        Due.is("cost", y.weigh(1, 1, 1), 10);
        Due.is("pin", y.pin(1, 0, true), true);
        Due.is("pin", y.pin(1, 1, true), false);
        Due.is("the problem in use is as it was", y.count(0, 8), SMALL.length());
    }

    private static void none(String why, String tape) {
        Edge.refused("bring: " + why, () -> typed(Edge.house(), tape), x -> x.bring(), PlanningHouse.NONE);
    }

    /** A row of TEXT with a state that is wrong, or just right. */
    private static void bring(String why, String state, boolean taken) {
        String tape = Rows.export(1, Rows.row(TEXT, state));
        if (!taken) none(why, tape);
        else Due.is("bring: " + why, typed(Edge.house(), tape).bring(), 1);
    }

    private static void everyByteOfExport() {
        Edge.of(66, "NONE, and nothing changes: it is none");
        String tape = Rows.export(2, small() + Rows.row(TEXT, state(1, 2, -99, 3, 99, 4, 0)));
        Due.is("a right one", typed(new PlanningHouse(), tape).bring(), 2);
        PlanningHouse x = typed(new PlanningHouse(), tape);
        for (int i = 0; i < tape.length(); i++) {
            int by = 1 << i % 8;
            x.spoil(i, by);
            Due.is("bring with byte " + i + " changed", x.bring(), PlanningHouse.NONE);
            x.spoil(i, by);
        }
        Due.is("mended", x.bring(), 2);
    }

    private static void tooEarlyOrMore() {
        Edge.of(66, "it ends too early or has more");
        String tape = Rows.export(1, small());
        for (int n = 0; n < tape.length(); n++) none("the first " + n + " bytes", tape.substring(0, n));
        none("one byte more", tape + " ");
        none("another one behind", tape + tape);
        none("less rows than it says", Rows.export(2, small()));
        none("far less rows", Rows.export(65535, small()));
        none("none of one", Rows.export(1, ""));
        none("more rows than it says", Rows.export(1, small() + small()));
        none("a row that it does not tell", Rows.export(0, small()));
        none("a byte behind its rows", Rows.export(1, small() + " "));
        none("a byte behind no rows", Rows.export(0, " "));
        for (int n = 0; n < 28; n++) none(n + " bytes of a row", Rows.export(1, small().substring(0, n)));
        for (int n = 0; n < 28; n++) none("a row and " + n + " bytes of one", Rows.export(2, small() + small().substring(0, n)));
        for (int wide : new int[] {SMALL.length() + 1, 1000, 32768, 65535}) {
            none("a text longer than all", Rows.export(1, Rows.summed(Rows.number(211, 1) + Rows.number(wide, 2) + SMALL + Rows.number(1, 3) + Rows.number(0, 2))));
        }
        none("a sum alone", Rows.summed(""));
        none("one byte and a sum", Rows.summed("\u0000"));
    }

    private static void firstByte() {
        Edge.of(66, "a first byte 211, a text, or a sum is not right");
        for (int b : new int[] {0, 210, 212, 83, 255}) {
            none("first byte " + b, Rows.export(1, Rows.summed(Rows.number(b, 1) + Rows.number(SMALL.length(), 2) + SMALL + Rows.number(1, 3) + Rows.number(0, 2))));
        }
        String right = Rows.number(211, 1) + Rows.number(SMALL.length(), 2) + SMALL + Rows.number(1, 3) + Rows.number(0, 2);
        Due.is("first byte 211", typed(new PlanningHouse(), Rows.export(1, Rows.summed(right))).bring(), 1);
    }

    private static void texts() {
        Edge.of(66, "a first byte 211, a text, or a sum is not right");
        String[] wrong = {"", "$", ";", "var a in{0}", "var a in{0};;", "var a in{0};var a in{0};", "var a in{0};rule r at 0*1:x=1;", "var a in{0,0};",
            "var a in 0..20;", "var a in{0};rule r at 0*1:" + "~".repeat(13) + "a=1;"};
        String state = Rows.number(0, 1) + Rows.number(1, 2) + Rows.number(0, 2);
        for (String text : wrong) none("the text " + text, Rows.export(1, Rows.row(text, state)));
        none("a text without a var", Rows.export(1, Rows.row("fact f=1;", Rows.number(1, 4) + Rows.number(0, 2))));
        none("the second text", Rows.export(2, small() + Rows.row("var a in{0}", state)));
        Due.is("a right text", typed(new PlanningHouse(), Rows.export(1, Rows.row("%\n" + SMALL, state))).bring(), 1);
        PlanningHouse x = typed(Due.of(SMALL), Rows.export(1, Rows.row("$", state)));
        Due.is("bring", x.bring(), PlanningHouse.NONE);
        Due.is("its fault is not told", x.fault(), 0);
    }

    private static void facts() {
        Edge.of(66, "a fact is not -9999 .. 9999");
        int[] facts = {-9999, 9999, 0, -1, -10000, 10000, 65536, LEAST, MOST};
        for (int fact : facts) {
            boolean taken = fact >= -9999 && fact <= 9999;
            bring("the first fact " + fact, state(fact, 1, -99, 1, 99, 1, 0), taken);
            bring("the last fact " + fact, state(0, fact, -99, 1, 99, 1, 0), taken);
        }
    }

    private static void values() {
        Edge.of(66, "a value is none of its var's range");
        for (int a = -128; a < 128; a++) {
            boolean taken = a == -99 || a == -98;
            if (taken || a % 16 == 0 || a > -103 && a < -94) bring("the first value " + a, state(0, 1, a, 1, 99, 1, 0), taken);
        }
        for (int b : new int[] {99, 0, 98, 100, -99, -1, 1, 127, -128}) bring("the last value " + b, state(0, 1, -99, 1, b, 1, 0), b == 99 || b == 0);
    }

    private static void costs() {
        Edge.of(66, "a cost not 0 .. 1000");
        for (int cost : new int[] {0, 1, 999, 1000, 1001, 1024, 32767, 32768, 65535}) {
            bring("the first cost " + cost, state(0, 1, -99, cost, 99, 1, 0), cost <= 1000);
            bring("the last cost " + cost, state(0, 1, -99, 1, 99, cost, 0), cost <= 1000);
        }
    }

    private static void pins() {
        Edge.of(66, "or a pinned one is no var");
        for (int pins = 0; pins < 4; pins++) bring("pins " + pins, state(0, 1, -99, 1, 99, 1, pins), true);
        for (int v = 2; v < 16; v++) bring("var " + v + " pinned", state(0, 1, -99, 1, 99, 1, 1 << v), false);
        bring("all bits", state(0, 1, -99, 1, 99, 1, 65535), false);
        StringBuilder text = new StringBuilder();
        for (int i = 0; i < 12; i++) text.append("var v").append(i).append(" in{1};");
        String before = (Rows.number(1, 1) + Rows.number(1, 2)).repeat(12);
        Due.is("twelve pinned", typed(new PlanningHouse(), Rows.export(1, Rows.row(text.toString(), before + Rows.number(4095, 2)))).bring(), 1);
        for (int v = 12; v < 16; v++) none("var " + v + " pinned", Rows.export(1, Rows.row(text.toString(), before + Rows.number(1 << v, 2))));
    }

    private static void sums() {
        Edge.of(66, "or a sum is not right");
        String right = small();
        for (int i = 20; i < 28; i++) {
            for (int bit : new int[] {1, 128}) {
                String wrong = right.substring(0, i) + (char) (right.charAt(i) ^ bit) + right.substring(i + 1);
                none("a row's sum", Rows.export(1, wrong));
                none("the last row's sum", Rows.export(2, right + wrong));
                String tape = Rows.export(1, right);
                int at = tape.length() - 28 + i;
                none("the export's sum", tape.substring(0, at) + (char) (tape.charAt(at) ^ bit) + tape.substring(at + 1));
            }
        }
        Edge.of(Edge.TERMS, "s becomes (s exclusive-or b) turned left by 53, times 0xC2B2AE3D27D4EB4F (longs that wrap)");
        PlanningHouse x = new PlanningHouse();
        x.take();
        // of two bytes 0 the sum is 0; of 0 and 1 it is 1 turned left by 53, times the number
        for (int i = 0; i < 10; i++) Due.is("an export of no rows", x.tapeAt(i), 0);
        PlanningHouse y = store(1);
        y.take();
        String want = Rows.number((1L << 53) * 0xC2B2AE3D27D4EB4FL, 8);
        Due.same("the sum of 0 and 1", Rows.summed("\u0000\u0001").substring(2), want);
        Due.same("the tape", Due.tape(y), Rows.summed("\u0000\u0001" + small()));
    }

    private static Supplier<PlanningHouse> storeWith(int rows, String tape) {
        return () -> typed(store(rows), tape);
    }

    private static void tooManyRows() {
        Edge.of(66, "FULL, and nothing changes (looked at behind all that): there would be more than 100 rows, or too many bytes.");
        String fifty = small().repeat(50);
        PlanningHouse x = typed(store(50), Rows.export(50, fifty));
        Due.is("just a hundred", x.bring(), 50);
        Due.is("rows", x.rows(), 100);
        Due.is("the last one", x.load(99), 1);
        Edge.refused("101 rows", storeWith(51, Rows.export(50, fifty)), y -> y.bring(), PlanningHouse.FULL);
        Edge.refused("one row too many", storeWith(100, Rows.export(1, small())), y -> y.bring(), PlanningHouse.FULL);
        Due.is("no row more", storeWith(100, Rows.export(0, "")).get().bring(), 0);
        Due.is("a hundred at once", typed(new PlanningHouse(), Rows.export(100, fifty + fifty)).bring(), 100);
        for (int rows = 101; rows <= 103; rows++) {
            String tape = Rows.export(rows, small().repeat(rows));
            Edge.refused(rows + " at once", () -> typed(new PlanningHouse(), tape), y -> y.bring(), PlanningHouse.FULL);
        }
    }

    /** A store of a row of so many bytes, and a tape that is an export of such a one of so many. */
    private static PlanningHouse largeExport(int row, int brought) {
        PlanningHouse x = new PlanningHouse();
        int p = large(x, brought - 16);
        int q = large(x, row - 16);
        x.save(p);
        Due.is("take", x.take(), brought + 10);
        Due.is("crash", x.crash(0), 0);
        Due.is("save", x.save(q), 0);
        Due.is("size", x.size(), row);
        return x;
    }

    private static void tooManyBytes() {
        Edge.of(66, "or too many bytes");
        PlanningHouse x = largeExport(10000, 9990);
        Due.is("just as many as there may be", x.bring(), 1);
        Due.is("size", x.size(), 19990);
        Due.is("rows", x.rows(), 2);
        x.crash(0);
        Due.is("size", x.size(), 10000);
        Edge.refused("one byte too many", () -> largeExport(10000, 9991), y -> y.bring(), PlanningHouse.FULL);
        PlanningHouse y = large(10000, 9990);
        y.save(0);
        y.take();
        Due.is("its own export has 20000 bytes", y.bring(), PlanningHouse.FULL);
        Due.is("the tape stays", y.cut(20000), 20000);
    }

    private static void noneBeforeFull() {
        Edge.of(66, "(looked at behind all that)");
        String wrong = Rows.row(TEXT, state(0, 1, -99, 1001, 99, 1, 0));
        Edge.refused("a wrong row, with 100", storeWith(100, Rows.export(1, wrong)), y -> y.bring(), PlanningHouse.NONE);
        Edge.refused("a wrong row behind a right one, with 99", storeWith(99, Rows.export(2, small() + wrong)), y -> y.bring(), PlanningHouse.NONE);
        String many = small().repeat(101);
        Edge.refused("the 102nd is wrong", () -> typed(new PlanningHouse(), Rows.export(102, many + wrong)), y -> y.bring(), PlanningHouse.NONE);
        Edge.refused("more behind 101", () -> typed(new PlanningHouse(), Rows.export(101, many + " ")), y -> y.bring(), PlanningHouse.NONE);
        PlanningHouse x = largeExport(10000, 9991);
        x.spoil(9990, 1);
        Due.is("a wrong one of too many bytes", x.bring(), PlanningHouse.NONE);
        x.spoil(9990, 1);
        Due.is("mended", x.bring(), PlanningHouse.FULL);
    }
}
