import java.lang.management.ManagementFactory;
import java.lang.reflect.Array;
import java.lang.reflect.Field;
import java.lang.reflect.Modifier;
import java.util.Collections;
import java.util.IdentityHashMap;
import java.util.Set;

/** All calls of a run share one room that is never swept, so a call makes nothing that stays behind. */
public final class RoomTest {
    private static final int ROUNDS = 200;
    private static final int MOST_BYTES_PER_OBJECT = 12000;
    private static final int MOST_OBJECTS = 200;
    private static final int MOST_FIELDS = 2000;

    // All that an object holds, counted as the room counts it: objects with arrays, fields with elements.
    private static final Set<Object> HELD = Collections.newSetFromMap(new IdentityHashMap<>());
    private static int fields = 0;

    public static void main(String[] args) throws IllegalAccessException {
        count();
        measure();
    }

    private static void count() throws IllegalAccessException {
        ClockWires object = new ClockWires();
        use(object);
        walk(object);
        System.out.println(HELD.size() + " objects and " + fields + " fields and elements after all calls");
        if (HELD.size() > MOST_OBJECTS || fields > MOST_FIELDS) {
            System.out.println("that is too much");
            System.exit(1);
        }
    }

    private static void walk(Object object) throws IllegalAccessException {
        if (object == null || !HELD.add(object)) {
            return;
        }
        if (object.getClass().isArray()) {
            boolean holdsObjects = !object.getClass().getComponentType().isPrimitive();
            for (int i = 0; i < Array.getLength(object); i++) {
                fields++;
                if (holdsObjects) {
                    walk(Array.get(object, i));
                }
            }
            return;
        }
        for (Field field : object.getClass().getDeclaredFields()) {
            if (!Modifier.isStatic(field.getModifiers())) {
                fields++;
                field.setAccessible(true);
                if (!field.getType().isPrimitive()) {
                    walk(field.get(object));
                }
            }
        }
    }

    private static void measure() {
        com.sun.management.ThreadMXBean meter = (com.sun.management.ThreadMXBean) ManagementFactory.getThreadMXBean();
        long thread = Thread.currentThread().getId();
        // The first round loads classes, which is not what is counted.
        use(new ClockWires());
        meter.getThreadAllocatedBytes(thread);

        long start = meter.getThreadAllocatedBytes(thread);
        ClockWires[] objects = new ClockWires[ROUNDS];
        for (int i = 0; i < ROUNDS; i++) {
            objects[i] = new ClockWires();
        }
        long made = meter.getThreadAllocatedBytes(thread) - start;

        start = meter.getThreadAllocatedBytes(thread);
        for (ClockWires object : objects) {
            use(object);
        }
        long used = meter.getThreadAllocatedBytes(thread) - start;

        System.out.println(made / ROUNDS + " bytes for an object, " + used / ROUNDS + " for all its calls");
        // The meter's own rounding is far below one byte a call.
        if (made / ROUNDS > MOST_BYTES_PER_OBJECT || used / ROUNDS > 200) {
            System.out.println("that is too much");
            System.exit(1);
        }
    }

    private static void use(ClockWires object) {
        for (int k = 0; k < 6; k++) {
            object.sink(9 * k, (k * k * 7) % 60);
            object.sets(k, 0, k * 3);
        }
        for (char c : new char[] {'(', '0', '(', '1', '2', ')', ')'}) {
            object.type(c);
        }
        object.builds();
        for (int i = 0; i < 25; i++) {
            object.moves(i % 6, i, 61);
            object.pairs();
            object.betters();
            object.cuts(i % 14);
            object.grafts(i % 6, ClockWires.NONE);
            object.exchanges(0, 3);
            object.least(1);
            object.place(i % 14, 1);
            object.slow(i % 6);
            object.would(0, 1, 2);
            object.shown(12, i);
            object.nearest();
            object.digest();
            object.back();
        }
        object.frees();
    }
}
