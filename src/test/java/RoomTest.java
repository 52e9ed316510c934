import java.lang.management.ManagementFactory;

/** All that a long run of dear calls makes has room, and calls make nothing that stays small problems can't pay for. */
public final class RoomTest {
    private static final String LARGE = "fact f = 3;var a in 0..19;var b in 0..19;var c in 0..9;var d in 0..4;"
        + "rule r at 0*1:a+b<=c+d+f;rule s at 0*2:all(a,b,c,d);rule t at 1*3:busy(2:(a,3,1),(b,2,2),(c,4,1),(d,9,1));"
        + "rule u at 0*1:apart((a,b,2,2),(c,d,3,3));aim m at 1:a*b-c*d;aim n at 2:abs(a-10)+pick(b:5,3,1)+[c=d];";

    public static void main(String[] args) {
        com.sun.management.ThreadMXBean threads = (com.sun.management.ThreadMXBean) ManagementFactory.getThreadMXBean();
        long id = Thread.currentThread().getId();
        large();
        long before = threads.getThreadAllocatedBytes(id);
        large();
        long used = threads.getThreadAllocatedBytes(id) - before;
        System.out.println("a run of dear calls made " + used + " bytes");
        // 7.3 million elements are there; of eight bytes each that would be 58 million bytes
        Due.is("a run of dear calls has room", used < 12000000L, true);
        before = threads.getThreadAllocatedBytes(id);
        PlanningHouse x = new PlanningHouse();
        x.type(0L, 1);
        used = threads.getThreadAllocatedBytes(id) - before;
        System.out.println("a new house has " + used + " bytes");
        Due.is("a new house is small", used < 20000, true);
        steady(threads, id);
        Due.end();
    }

    /** Four large problems, all dear calls, loads, exports and proofs again and again. */
    private static void large() {
        PlanningHouse x = new PlanningHouse();
        Due.type(x, LARGE);
        x.problem();
        x.save(0);
        for (int k = 0; k < 3; k++) x.load(0);
        for (int i = 0; i < 3; i++) {
            for (int p = 0; p < 4; p++) {
                x.change(p, 0, i + p);
                x.solve(p);
                x.front(p);
                x.reach(p);
                x.fewest(p);
                x.relax(p);
                x.near(p, true);
                x.search(p, 1, 20, i, 500);
                x.without(p, 0, 1);
                x.future(p, 5);
                x.robust(p);
                x.pin(p, 0, true);
                x.solve(p);
                x.prove(p);
                x.check(p);
                x.pin(p, 0, false);
            }
            x.take();
            x.bring();
            x.drop(1);
            x.load(0);
        }
    }

    private static void steady(com.sun.management.ThreadMXBean threads, long id) {
        PlanningHouse x = new PlanningHouse();
        Due.type(x, "fact f = 3;var a in 0..3;var b in 0..3;rule r at 0*1:a+b=f;aim m at 1:a;");
        x.problem();
        x.save(0);
        long before = 0;
        for (int i = 0; i < 36; i++) {
            if (i == 18) before = threads.getThreadAllocatedBytes(id);
            x.change(0, 0, i % 5);
            x.solve(0);
            x.front(0);
            x.clash(0);
            x.reach(0);
            x.search(0, 2, 3, i, 50);
            x.prove(0);
            x.check(0);
            x.load(0);
            x.drop(1);
            x.take();
            x.bring();
            x.crash(0);
        }
        long used = threads.getThreadAllocatedBytes(id) - before;
        Due.is("calls that come again make nothing", used < 2000, true);
    }
}
