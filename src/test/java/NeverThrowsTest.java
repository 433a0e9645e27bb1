import java.lang.reflect.InvocationTargetException;
import java.lang.reflect.Method;
import java.lang.reflect.Modifier;
import java.util.ArrayList;
import java.util.Comparator;
import java.util.List;
import java.util.Random;

/** Any arguments in any state: no call may throw, and the same calls give the same answers. */
public final class NeverThrowsTest {
    private static final Due due = new Due("NeverThrowsTest");
    private static final int[] EDGES = {Integer.MIN_VALUE, Integer.MAX_VALUE, -1, 60, 61, 100, 120, 255, 256, 399, 1299, 200000, 10101, 6003};

    public static void main(String[] args) throws Exception {
        List<Method> calls = new ArrayList<>();
        for (Method m : StoneInLentils.class.getDeclaredMethods()) {
            if (Modifier.isPublic(m.getModifiers())) calls.add(m);
        }
        calls.sort(Comparator.comparing(Method::getName));
        for (int run = 0; run < 300; run++) {
            long once = run(calls, run);
            due.is("run " + run + " again", run(calls, run), once);
        }
        due.end();
    }

    private static long run(List<Method> calls, int seed) throws Exception {
        Random random = new Random(seed);
        StoneInLentils x = new StoneInLentils();
        int wild = 2 + seed % 20;
        long all = 0;
        for (int i = 0; i < 512; i++) {
            Method m = calls.get(random.nextInt(calls.size()));
            Object[] given = new Object[m.getParameterCount()];
            for (int k = 0; k < given.length; k++) {
                int v = random.nextInt(wild) > 0 ? random.nextInt(7) : random.nextBoolean() ? random.nextInt() : EDGES[random.nextInt(EDGES.length)];
                if (m.getName().equals("feed")) v = "s+(1)?;-!<9".charAt(random.nextInt(11));
                if (m.getName().equals("looker")) v = random.nextInt(1400);
                given[k] = m.getParameterTypes()[k] == long.class ? (Object) (long) v : (Object) v;
            }
            try {
                all = all * 31 + ((Number) m.invoke(x, given)).longValue();
            } catch (InvocationTargetException e) {
                e.getCause().printStackTrace(System.out);
                due.holds(m.getName() + " " + java.util.Arrays.toString(given) + " threw", false);
            }
        }
        return all;
    }
}
