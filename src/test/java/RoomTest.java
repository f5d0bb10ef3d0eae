import java.lang.management.ManagementFactory;
import java.lang.reflect.Array;
import java.lang.reflect.Field;
import java.lang.reflect.Modifier;
import java.util.ArrayList;
import java.util.IdentityHashMap;
import java.util.List;
import java.util.Map;

/** The room of a run: what one object is made of, and that its calls make nothing more. */
public final class RoomTest {
    private static final Check check = new Check();

    public static void main(String[] args) throws Exception {
        ofAnObject();
        ofCalls();
        check.end("RoomTest");
    }

    /** All that can be reached from an object: with 512 calls of which thirty make objects, far below the room. */
    private static void ofAnObject() throws Exception {
        Map<Object, Boolean> seen = new IdentityHashMap<>();
        List<Object> all = new ArrayList<>();
        reach(new QuickestOut(), seen, all);
        int elements = 0;
        for (int i = 0; i < all.size(); i++) {
            Object one = all.get(i);
            if (one.getClass().isArray()) {
                elements += Array.getLength(one);
                continue;
            }
            for (Field f : one.getClass().getDeclaredFields()) {
                if (!Modifier.isStatic(f.getModifiers())) {
                    elements++;
                    f.setAccessible(true);
                    if (!f.getType().isPrimitive()) {
                        reach(f.get(one), seen, all);
                    }
                }
            }
        }
        check.due(all.size() + " objects and arrays, 40 at most", true, all.size() <= 40);
        check.due(elements + " fields and elements, 15,000 at most", true, elements <= 15000);
    }

    private static void reach(Object one, Map<Object, Boolean> seen, List<Object> all) {
        if (one != null && seen.put(one, true) == null) {
            all.add(one);
        }
    }

    private static void ofCalls() {
        com.sun.management.ThreadMXBean bean = (com.sun.management.ThreadMXBean) ManagementFactory.getThreadMXBean();
        QuickestOut x = new QuickestOut();
        everyCall(x);
        x = new QuickestOut();
        long before = bean.getThreadAllocatedBytes(Thread.currentThread().getId());
        long sum = everyCall(x);
        long made = bean.getThreadAllocatedBytes(Thread.currentThread().getId()) - before;
        check.due("the calls made " + made + " bytes (their answers together " + sum + "); nothing is due", true, made < 1000);
    }

    /** Every call but along of what is not there, which throws. */
    private static long everyCall(QuickestOut x) {
        long sum = 0;
        for (int i = 0; i < 9; i++) {
            sum += x.place(7 * i, 30 * i, i, 10);
        }
        for (int i = 0; i < 13; i++) {
            sum += x.road(i % 8, (i + 1 + i / 8) % 8, 1 + i % 9, i % 10, 9 - i % 10);
        }
        for (int i = 0; i < 41; i++) {
            sum += x.move(i, i % 12, i % 2 == 0, 1);
        }
        for (int i = -1; i < 13; i++) {
            sum += x.count(i) + x.of(i, 0) + x.safe(3 * i) + x.openings(3 * i, 1) + x.shut(i) + x.turned(i, 1)
                + x.wider(i, true, 2) + x.turns(i, 1) + x.roomy(i, 9) + x.best(i) + x.latest(i) + x.lacks(20, i, false)
                + x.moved(i, 3) + x.planned(i) + x.there(i, 1, 0) + (x.open(9, i, 4) ? 1 : 0)
                + (i >= 0 && i < 12 ? x.along(i, 3) : 0);
        }
        sum += x.quickest() + x.bestTurn(0) + x.worst() + x.wrong() + x.turns(15, 0);
        sum += x.turn(0, 1) || x.set(0, 0, 9) ? 1 : 0;
        sum += x.feed(0x74757266, 0, 0, 0, 0) + (x.end(4) ? 1 : 0) + x.tell() + x.fault();
        sum += x.feed(0x7475726e, 0x2030202d, 0x313b2020, 0x20202020, 0x20202020) + x.tell() + x.fault();
        return sum + x.back(3) + x.drop();
    }
}
