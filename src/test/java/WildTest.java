import java.lang.reflect.InvocationTargetException;
import java.lang.reflect.Method;
import java.util.ArrayList;
import java.util.Arrays;
import java.util.Comparator;
import java.util.List;
import java.util.Random;

/** No call throws, whatever it is given, in whatever state; and the same calls give the same answers. */
public final class WildTest {
    /** What an object answers to later calls is free. */
    private static final int MOST_CALLS = 512;
    private static final int[] EDGES = {
        0, 1, 2, 3, 4, 5, 6, 7, 8, 9, 11, 12, 13, 15, 16, 19, 20, 23, 24, 31, 32, 33, 63, 64, 99, 100, 101, 1000, 2000, 2001, 9999,
        10000, 19999, 20000, 20001, 65535, 1 << 24, -1, -2, -12, -9999, -100000, Integer.MAX_VALUE, Integer.MIN_VALUE,
        Integer.MAX_VALUE - 1, Integer.MIN_VALUE + 1,
    };

    public static void main(String[] args) throws Exception {
        List<Method> methods = new ArrayList<>();
        for (Method m : PlanningHouse.class.getDeclaredMethods()) {
            if (java.lang.reflect.Modifier.isPublic(m.getModifiers())) methods.add(m);
        }
        methods.sort(Comparator.comparing(Method::getName));
        for (int seed = 0; seed < 400; seed++) {
            long first = run(methods, seed);
            Due.is("run " + seed + " again", run(methods, seed), first);
        }
        Due.end();
    }

    private static long run(List<Method> methods, int seed) throws Exception {
        Random random = new Random(seed);
        Texts texts = new Texts(random);
        PlanningHouse x = new PlanningHouse();
        long trace = 1;
        int calls = 0;
        for (int i = 0; calls < MOST_CALLS; i++) {
            String text = i % 100 == 0 ? texts.problem() : random.nextInt(40) == 0 ? texts.proof() : "";
            if (!text.isEmpty()) {
                calls += 2 + (text.length() + 7) / 8;
                if (calls > MOST_CALLS) break;
                x.cut(0);
                Due.type(x, text);
                if (i % 100 == 0) x.problem();
                continue;
            }
            calls++;
            Method m = methods.get(random.nextInt(methods.size()));
            if (m.getName().equals("drop") && random.nextInt(10) > 0) continue;
            Object[] given = new Object[m.getParameterCount()];
            for (int k = 0; k < given.length; k++) given[k] = some(random, m.getParameterTypes()[k], k);
            try {
                Object answer = m.invoke(x, given);
                trace = 31 * trace + (answer instanceof Boolean ? (Boolean) answer ? 1 : 0 : ((Number) answer).longValue());
            } catch (InvocationTargetException e) {
                System.out.println("run " + seed + ": " + m.getName() + Arrays.toString(given) + " threw " + e.getCause());
                Due.is("it threw", 1, 0);
            }
        }
        return trace;
    }

    private static Object some(Random random, Class<?> type, int k) {
        if (type == boolean.class) return random.nextBoolean();
        if (type == long.class) return random.nextLong();
        if (k == 0 && random.nextInt(3) > 0) return random.nextInt(2);
        if (random.nextInt(3) == 0) return EDGES[random.nextInt(EDGES.length)];
        return random.nextInt(20) == 0 ? random.nextInt() : random.nextInt(5);
    }
}
