import java.lang.reflect.InvocationTargetException;
import java.lang.reflect.Method;
import java.lang.reflect.Modifier;
import java.util.Arrays;
import java.util.Comparator;
import java.util.NoSuchElementException;
import java.util.Random;

/** Whatever is called with whatever, in whatever state: nothing is thrown but by along(), and questions change nothing. */
public final class AnyArgsTest {
    private static final Check check = new Check();
    private static final int[] EDGES = {Integer.MIN_VALUE, Integer.MIN_VALUE + 1, -301, -41, -13, -9, -2, -1, 0, 1, 2, 7, 8, 9, 10,
        11, 12, 13, 20, 21, 30, 31, 39, 40, 41, 50, 51, 60, 61, 300, 301, 4095, 4096, 0x706c6163, Integer.MAX_VALUE - 1,
        Integer.MAX_VALUE};
    private static final String CHANGES = " feed end tell place road turn set drop move back ";

    public static void main(String[] args) throws Exception {
        Method[] face = Arrays.stream(QuickestOut.class.getDeclaredMethods()).filter(m -> Modifier.isPublic(m.getModifiers()))
            .sorted(Comparator.comparing(Method::getName)).toArray(Method[]::new);
        for (int seed = 0; seed < 150; seed++) {
            Random random = new Random(seed);
            QuickestOut x = new QuickestOut();
            if (seed % 3 > 0) {
                build(x, random);
            }
            for (int i = 0; i < 450; i++) {
                call(x, face[random.nextInt(face.length)], random, seed);
            }
        }
        check.end("AnyArgsTest");
    }

    private static void build(QuickestOut x, Random random) {
        for (int i = 0; i < 40; i++) {
            x.place(random.nextInt(61), random.nextInt(2) * random.nextInt(301), random.nextInt(5), random.nextInt(9));
            x.road(random.nextInt(8), random.nextInt(8), 1 + random.nextInt(9), random.nextInt(10), random.nextInt(10));
            x.move(random.nextInt(41), random.nextInt(12), random.nextBoolean(), 1 + random.nextInt(9));
        }
    }

    private static void call(QuickestOut x, Method m, Random random, int seed) throws Exception {
        Object[] arguments = new Object[m.getParameterCount()];
        for (int i = 0; i < arguments.length; i++) {
            boolean small = random.nextInt(3) > 0;
            arguments[i] = m.getParameterTypes()[i] == boolean.class ? (Object) random.nextBoolean()
                : (Object) (small ? random.nextInt(12) : EDGES[random.nextInt(EDGES.length)]);
        }
        boolean asks = !CHANGES.contains(" " + m.getName() + " ");
        long before = asks ? state(x) : 0;
        String call = "seed " + seed + ": " + m.getName() + Arrays.toString(arguments);
        try {
            Object first = m.invoke(x, arguments);
            if (asks) {
                check.due(call + " again is the same", true, first.equals(m.invoke(x, arguments)));
            }
        } catch (InvocationTargetException e) {
            boolean may = m.getName().equals("along") && e.getCause().getClass() == NoSuchElementException.class;
            check.due(call + " threw " + e.getCause(), true, may);
        }
        if (asks) {
            check.due(call + " changes nothing", before, state(x));
        }
    }

    private static long state(QuickestOut x) {
        long state = 0;
        for (int what = 0; what < 6; what++) {
            state = state * 31 + x.count(what);
            for (int i = 0; i < 40; i++) {
                state = state * 31 + (i < 8 ? x.of(i, what) : 0);
                state = state * 31 + (i < 12 ? Check.along(x, i, what) : 0);
                state = state * 31 + x.moved(i, what);
            }
        }
        return state * 31 + x.fault();
    }
}
