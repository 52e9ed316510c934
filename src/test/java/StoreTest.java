/** Promises 59 to 66: the store, exports, and power that fails. */
public final class StoreTest {
    private static final String TEXT = "fact f=-2;fact g=7;var a in -1..1;var b in 0..3;";

    public static void main(String[] args) {
        row();
        loading();
        noFutures();
        full();
        crashes();
        exports();
        noExports();
        fullExports();
        Due.end();
    }

    private static void row() {
        PlanningHouse x = Due.of(TEXT);
        Due.is("save", x.save(0), 0);
        String first = Rows.row(TEXT, Rows.number(-2, 4) + Rows.number(7, 4) + Rows.number(255, 1) + Rows.number(1, 2) + Rows.number(0, 1) + Rows.number(1, 2) + Rows.number(0, 2));
        Due.same("the row", Rows.stored(x), first);
        Due.is("rows", x.rows(), 1);
        Due.is("size", x.size(), first.length());
        x.change(0, 0, 9999);
        x.change(0, 1, -9999);
        x.put(0, 1, 3);
        x.weigh(0, 0, 1000);
        x.weigh(0, 1, 0);
        x.pin(0, 1, true);
        Due.is("save", x.save(0), 1);
        String second = Rows.row(TEXT, Rows.number(9999, 4) + Rows.number(-9999, 4) + Rows.number(255, 1) + Rows.number(1000, 2) + Rows.number(3, 1) + Rows.number(0, 2) + Rows.number(2, 2));
        Due.same("both rows", Rows.stored(x), first + second);
        Due.is("byteAt(-1)", x.byteAt(-1), PlanningHouse.NONE);
        Due.is("byteAt behind", x.byteAt(x.size()), PlanningHouse.NONE);
        Due.is("byteAt(0)", x.byteAt(0), 211);
        Due.is("save of none", x.save(1), PlanningHouse.NONE);
        Due.is("save of none", x.save(-1), PlanningHouse.NONE);
        Due.is("rows", x.rows(), 2);
    }

    private static void loading() {
        PlanningHouse x = Due.of(TEXT);
        x.change(0, 0, -77);
        x.put(0, 0, 1);
        x.put(0, 1, 2);
        x.weigh(0, 1, 300);
        x.pin(0, 0, true);
        x.save(0);
        Due.is("fault before", Due.read(x, "?"), -1);
        Due.is("load", x.load(0), 1);
        Due.is("fault stays", x.fault(), 1);
        Due.planIs(x, 1, "1 2");
        Due.is("fact", x.fact(1, 0), -77);
        Due.is("fact", x.fact(1, 1), 7);
        Due.is("cost", x.weigh(1, 1, 5), 300);
        Due.is("cost", x.weigh(1, 0, 5), 1);
        Due.is("pin", x.pin(1, 0, false), true);
        Due.is("pin", x.pin(1, 1, false), false);
        Due.is("the old one", x.weigh(0, 1, 300), 300);
        Due.is("bytes of its text", x.count(1, 8), TEXT.length());
        Due.is("load of none", x.load(1), PlanningHouse.NONE);
        Due.is("load of none", x.load(-1), PlanningHouse.NONE);
        Due.is("load", x.load(0), 2);
        Due.is("load", x.load(0), 3);
        Due.is("load a fifth", x.load(0), PlanningHouse.FULL);
        Due.is("load none with four", x.load(1), PlanningHouse.NONE);
        x.drop(2);
        Due.is("the least free one", x.load(0), 2);
    }

    private static void noFutures() {
        PlanningHouse x = Due.of(TEXT);
        x.future(0, 5);
        x.save(0);
        Due.is("load", x.load(0), 1);
        Due.is("no futures", x.count(1, 7), 0);
        Due.is("the old one's", x.count(0, 7), 1);
        x.drop(0);
        Due.is("load in its place", x.load(0), 0);
        Due.is("no futures", x.count(0, 7), 0);
    }

    /** Rows of 30 bytes: 100 are the most. */
    private static void full() {
        PlanningHouse x = Due.of("var a in 0..0;");
        for (int k = 0; k < 100; k++) Due.is("save", x.save(0), k);
        Due.is("save", x.save(0), PlanningHouse.FULL);
        Due.is("rows", x.rows(), 100);
        Due.is("size", x.size(), 100 * 30);
    }

    private static void crashes() {
        PlanningHouse x = Due.of("var a in 0..0;");
        Due.is("without a call", x.crash(0), 0);
        x.save(0);
        x.save(0);
        Due.is("below 0", x.crash(-1), PlanningHouse.NONE);
        Due.is("wholly there", x.crash(30), 2);
        Due.is("since the latest crash there is none", x.crash(0), 2);
        x.save(0);
        Due.is("one byte less", x.crash(29), 2);
        Due.is("size", x.size(), 60);
        Due.is("again", x.crash(0), 2);
        Due.is("save", x.save(0), 2);
        Due.is("nothing is there", x.crash(0), 2);
        x.take();
        Due.is("bring", x.bring(), 2);
        Due.is("rows", x.rows(), 4);
        Due.is("one row is there", x.crash(59), 3);
        Due.is("size", x.size(), 90);
        x.save(0);
        x.take();
        x.bring();
        Due.is("all are there", x.crash(Integer.MAX_VALUE), 8);
        x.save(0);
        x.cut(0);
        Due.type(x, Rows.export(0, ""));
        Due.is("bring of no rows", x.bring(), 0);
        Due.is("the save was the latest that made a row", x.crash(29), 8);
        Due.is("a save that failed", x.save(1), PlanningHouse.NONE);
        Due.is("nothing is gone", x.crash(0), 8);
        Due.is("load of one that is gone", x.load(8), PlanningHouse.NONE);
        Due.is("load of one that is there", x.load(7), 1);
    }

    private static void exports() {
        PlanningHouse x = Due.of(TEXT);
        Due.type(x, "something");
        Due.is("take of none", x.take(), 10);
        Due.same("the tape", Due.tape(x), Rows.export(0, ""));
        Due.is("bring of none", x.bring(), 0);
        Due.is("the tape is empty", x.cut(0), 0);
        x.save(0);
        x.put(0, 0, 1);
        x.save(0);
        String rows = Rows.stored(x);
        Due.is("take", x.take(), rows.length() + 10);
        Due.same("the tape", Due.tape(x), Rows.export(2, rows));
        PlanningHouse y = new PlanningHouse();
        Due.type(y, Rows.export(2, rows));
        Due.is("bring", y.bring(), 2);
        Due.same("the rows", Rows.stored(y), rows);
        Due.is("the tape is empty", y.cut(0), 0);
        Due.is("rows", y.rows(), 2);
        Due.is("load", y.load(1), 0);
        Due.planIs(y, 0, "1 0");
        Due.is("fault()", y.fault(), 0);
    }

    private static void none(String tape) {
        PlanningHouse x = Due.of("var a in 0..0;");
        x.save(0);
        Due.type(x, tape);
        Due.is("bring", x.bring(), PlanningHouse.NONE);
        Due.same("the tape stays", Due.tape(x), tape);
        Due.is("rows", x.rows(), 1);
        Due.is("fault()", x.fault(), 0);
        Due.is("nothing was written", x.crash(0), 0);
    }

    private static String state(int f, int a, int costA, int b, int pins) {
        return Rows.number(f, 4) + Rows.number(7, 4) + Rows.number(a, 1) + Rows.number(costA, 2) + Rows.number(b, 1) + Rows.number(1, 2) + Rows.number(pins, 2);
    }

    private static void noExports() {
        String fine = Rows.row(TEXT, state(-9999, -1, 1000, 3, 3));
        PlanningHouse x = new PlanningHouse();
        Due.type(x, Rows.export(1, fine));
        Due.is("a fine one", x.bring(), 1);
        none("");
        none(Rows.export(0, "").substring(1));
        none(Rows.export(0, "") + " ");
        none(Rows.export(1, ""));
        none(Rows.export(2, fine));
        none(Rows.export(0, fine));
        none(Rows.export(1, fine + fine));
        none(Rows.export(1, fine.substring(0, fine.length() - 1)));
        none(Rows.export(1, Rows.summed((char) 210 + fine.substring(1, fine.length() - 8))));
        none(Rows.export(1, fine.substring(0, fine.length() - 1) + (char) (fine.charAt(fine.length() - 1) ^ 1)));
        String whole = Rows.export(1, fine);
        none(whole.substring(0, whole.length() - 1) + (char) (whole.charAt(whole.length() - 1) ^ 1));
        none(Rows.export(1, Rows.row(TEXT.replace("var b", "var a"), state(0, 0, 1, 0, 0))));
        none(Rows.export(1, Rows.row("", Rows.number(0, 2))));
        none(Rows.export(1, Rows.row("fact f = 1;", Rows.number(1, 4) + Rows.number(0, 2))));
        none(Rows.export(1, Rows.row(TEXT, state(10000, 0, 1, 0, 0))));
        none(Rows.export(1, Rows.row(TEXT, state(-10000, 0, 1, 0, 0))));
        none(Rows.export(1, Rows.row(TEXT, state(0, 2, 1, 0, 0))));
        none(Rows.export(1, Rows.row(TEXT, state(0, -2, 1, 0, 0))));
        none(Rows.export(1, Rows.row(TEXT, state(0, 0, 1001, 0, 0))));
        none(Rows.export(1, Rows.row(TEXT, state(0, 0, 65535, 0, 0))));
        none(Rows.export(1, Rows.row(TEXT, state(0, 0, 1, 4, 0))));
        none(Rows.export(1, Rows.row(TEXT, state(0, 0, 1, 0, 4))));
        none(Rows.export(1, Rows.row(TEXT, state(0, 0, 1, 0, 32768))));
        none(Rows.export(1, Rows.row(TEXT, state(0, 0, 1, 0, 0) + " ")));
        none(Rows.summed(Rows.number(1, 2) + (char) 211));
        none(Rows.summed(Rows.number(1, 2) + (char) 211 + Rows.number(65535, 2)));
    }

    private static void fullExports() {
        PlanningHouse x = Due.of("var a in 0..0;");
        for (int k = 0; k < 51; k++) x.save(0);
        x.take();
        Due.is("too many rows", x.bring(), PlanningHouse.FULL);
        Due.is("the tape stays", x.cut(51 * 30 + 10), 51 * 30 + 10);
        Due.is("rows", x.rows(), 51);
        Due.is("the latest is the save", x.crash(0), 50);
        x.take();
        Due.is("just right", x.bring(), 50);
        Due.is("rows", x.rows(), 100);
        Due.is("size", x.size(), 3000);
        Due.is("all that was brought is gone", x.crash(0), 50);
        // a text of 10000 and more twice: too many bytes
        PlanningHouse z = Due.of("var a in 0..19;var b in 0..19;var c in 0..19;");
        z.prove(0);
        z.spoil(0, 'a' ^ '%');
        Due.type(z, "\nvar a in 0..0;");
        z.problem();
        z.save(1);
        z.take();
        Due.is("too many bytes", z.bring(), PlanningHouse.FULL);
        Due.is("rows", z.rows(), 1);
        z.crash(0);
        Due.is("room again", z.bring(), 1);
        Due.is("load", z.load(0), 2);
        Due.is("its text", z.count(2, 8), 17277);
    }
}
