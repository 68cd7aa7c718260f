import java.lang.management.ManagementFactory;
import java.lang.reflect.Array;
import java.lang.reflect.Field;
import java.lang.reflect.Modifier;
import java.util.IdentityHashMap;
import java.util.Map;

/** All calls of a run share one room: an object stays small, and its calls make nothing. */
public final class RoomTest {
    private static final int MOST_OBJECTS = 400;
    private static final int MOST_ELEMENTS = 16000;
    private static final long SPARE_BYTES = 4096;

    private RoomTest() {
    }

    public static void main(String[] args) throws IllegalAccessException {
        Map<Object, Boolean> met = new IdentityHashMap<>();
        long elements = count(new ByteViews(), met);
        Feeder.due("an object's objects are few: " + met.size(), met.size() <= MOST_OBJECTS, true);
        Feeder.due("its elements are few: " + elements, elements <= MOST_ELEMENTS, true);
        com.sun.management.ThreadMXBean meter =
            (com.sun.management.ThreadMXBean) ManagementFactory.getThreadMXBean();
        ByteViews x = Feeder.with("a u8 at 0 x 8; b s16 big at 8 x 4 {lo:0-3}; f f64 at 16 x 2; r u8 at 40 reads;");
        int[][] text = Feeder.calls("(a = b[1] * 2; f[1] = f / 3.7 % 2; b.lo = r; (a[9] = 1;) fail;) a[f] = 1;    ");
        long used = 0;
        // The first time round classes are loaded; what counts is the last.
        for (int round = 0; round < 3; round++) {
            long before = meter.getThreadAllocatedBytes(Thread.currentThread().getId());
            useAll(x, text);
            used = meter.getThreadAllocatedBytes(Thread.currentThread().getId()) - before;
        }
        Feeder.due("its calls make nothing: " + used, used <= SPARE_BYTES, true);
        Feeder.finish();
    }

    private static void useAll(ByteViews x, int[][] text) {
        for (int i = 0; i < 4; i++) {
            for (int[] c : text) {
                x.feed(c[0], c[1], c[2], c[3], c[4]);
            }
            x.script();
            x.writeFloat(2, 0, Double.doubleToLongBits(7.9 + i));
            x.write(1, i, 1000 + i);
            x.copy(2, 1);
            x.sort(1);
            x.sort(2);
            x.turn(1);
            x.roll(0, 3);
            x.fill(0, i);
            x.show(1);
            x.find(2, 0, 3);
            x.sum(2);
            x.rest(2, 0, 3);
            x.over(0, 1);
            x.look(5);
            x.read(3, 0);
            x.undo();
            x.feed(0x62202020, 0x20202020, 0x20202020, 0x20202020, 0x20202020);
            x.named();
            x.feed(0x62206220, 0x20202020, 0x20202020, 0x20202020, 0x20202020);
            x.views();
        }
    }

    private static long count(Object o, Map<Object, Boolean> met) throws IllegalAccessException {
        if (o == null || o instanceof String || met.put(o, true) != null) {
            return 0;
        }
        Class<?> c = o.getClass();
        long elements = 0;
        if (c.isArray()) {
            elements += Array.getLength(o);
            for (int i = 0; i < Array.getLength(o) && !c.getComponentType().isPrimitive(); i++) {
                elements += count(Array.get(o, i), met);
            }
            return elements;
        }
        for (Field f : c.getDeclaredFields()) {
            if (!Modifier.isStatic(f.getModifiers())) {
                f.setAccessible(true);
                elements += 1 + (f.getType().isPrimitive() ? 0 : count(f.get(o), met));
            }
        }
        return elements;
    }
}
