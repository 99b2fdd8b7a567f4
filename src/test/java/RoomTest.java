import java.lang.management.ManagementFactory;
import java.lang.reflect.Array;
import java.lang.reflect.Field;
import java.lang.reflect.Modifier;
import java.util.Collections;
import java.util.IdentityHashMap;
import java.util.Set;

/** An object takes little room, and its calls take none. */
public final class RoomTest {
    private static int objects;
    private static int elements;

    public static void main(String[] args) throws IllegalAccessException {
        Check check = new Check("RoomTest");
        CrowdedLanes x = new CrowdedLanes();
        walk(x, Collections.newSetFromMap(new IdentityHashMap<>()));
        System.out.println("RoomTest: an object is " + objects + " objects and rows with " + elements + " fields and elements");
        check.holds("few objects", objects <= 50);
        check.holds("few elements", elements <= 2000);
        for (int i = 0; i < 3; i++) {
            calls(x);
        }
        com.sun.management.ThreadMXBean threads = (com.sun.management.ThreadMXBean) ManagementFactory.getThreadMXBean();
        long id = Thread.currentThread().getId();
        threads.getThreadAllocatedBytes(id);
        long before = threads.getThreadAllocatedBytes(id);
        for (int i = 0; i < 100; i++) {
            calls(x);
        }
        long taken = threads.getThreadAllocatedBytes(id) - before;
        // 4000 calls: even one small object a call would be far above this
        check.holds("calls make nothing: " + taken + " bytes", taken < 10000);
        check.close();
    }

    private static void calls(CrowdedLanes x) {
        x.end(0);
        x.feed(0x6f70656e20333b20L); // "open 3; "
        x.text();
        x.fault();
        x.told(0);
        x.rate(0, 1);
        x.of(0, 3);
        x.parts(2);
        x.rest(0, 0);
        x.through(0, 0);
        x.even(0);
        x.worth(1);
        x.all(2);
        x.flow(0);
        x.full(0, 0);
        x.both(0, 1, 0);
        x.rule(1, 2);
        x.shock(1, 2, 0);
        x.sheet(0, 2, 64);
        x.lay(0, 1, 1);
        x.judge(0, 0, 2, 0);
        x.feed(0x72696e6720363b20L); // "ring 6; "
        x.text();
        x.rest(1, 1);
        x.rest(31, 1);
        x.even(1);
        x.parts(0);
        x.atOnce(7, 100);
        x.round(7, 2);
        x.run(7, 1, 200, 1);
        x.coupled(7, 11, 1, 200, 2);
        x.cells(15, 240);
        x.orders(15, 240);
        x.ways(85, 85, 8);
        x.view(7, 31);
        x.seen(400);
        x.word(400, 1);
        x.judge(7, 0, 2, 0);
        x.count(2);
        x.feed(0);
        x.text();
    }

    private static void walk(Object o, Set<Object> met) throws IllegalAccessException {
        if (o == null || !met.add(o)) {
            return;
        }
        objects++;
        if (o.getClass().isArray()) {
            elements += Array.getLength(o);
            return;
        }
        for (Field f : o.getClass().getDeclaredFields()) {
            if (!Modifier.isStatic(f.getModifiers())) {
                elements++;
                f.setAccessible(true);
                if (!f.getType().isPrimitive()) {
                    walk(f.get(o), met);
                }
            }
        }
    }
}
