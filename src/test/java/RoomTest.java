import java.lang.management.ManagementFactory;
import java.lang.reflect.Array;
import java.lang.reflect.Field;
import java.lang.reflect.Modifier;
import java.util.Collections;
import java.util.IdentityHashMap;
import java.util.Set;

/**
 * LANGUAGE.md, rule 12: what a run makes is small. An object holds its rows from the start, none of its
 * calls makes more (but for the exceptions of look), and none lets what it holds grow.
 */
public final class RoomTest {
    private static final int MOST_OBJECTS = 100;
    private static final int MOST_CELLS = 10000;
    // One smallest object in each of 500 rounds would be 8000 bytes.
    private static final long MOST_BYTES = 4000;

    private int objects = 0;
    private long cells = 0;
    private final Set<Object> seen = Collections.newSetFromMap(new IdentityHashMap<>());

    public static void main(String[] args) throws IllegalAccessException {
        newObject();
        nothingGrows();
        nothingIsMade();
        Check.end("RoomTest");
    }

    private static RoomTest measure(DryWells x) throws IllegalAccessException {
        RoomTest room = new RoomTest();
        room.count(x);
        return room;
    }

    /** Counts an object, all that it holds, and their fields and elements. */
    private void count(Object one) throws IllegalAccessException {
        if (one == null || one instanceof String || !seen.add(one)) {
            return;
        }
        objects++;
        if (one.getClass().isArray()) {
            countElements(one);
            return;
        }
        for (Field field : one.getClass().getDeclaredFields()) {
            if (!Modifier.isStatic(field.getModifiers())) {
                cells++;
                field.setAccessible(true);
                countHeld(field.getType(), field.get(one));
            }
        }
    }

    private void countElements(Object array) throws IllegalAccessException {
        for (int i = 0; i < Array.getLength(array); i++) {
            cells++;
            countHeld(array.getClass().getComponentType(), Array.get(array, i));
        }
    }

    private void countHeld(Class<?> type, Object held) throws IllegalAccessException {
        if (!type.isPrimitive()) {
            count(held);
        }
    }

    private static void newObject() throws IllegalAccessException {
        RoomTest room = measure(new DryWells());
        Check.due("objects of a new one: " + room.objects, room.objects <= MOST_OBJECTS, true);
        Check.due("fields and elements: " + room.cells, room.cells <= MOST_CELLS, true);
    }

    private static void nothingGrows() throws IllegalAccessException {
        RoomTest before = measure(new DryWells());
        DryWells x = Worlds.full();
        for (int i = 0; i < 30; i++) {
            callAll(x, i);
        }
        RoomTest behind = measure(x);
        Check.due("objects behind many calls", behind.objects, before.objects);
        Check.due("fields and elements behind many calls", behind.cells, before.cells);
    }

    /** All calls of the face but look with an exception: 17 of them. */
    private static long callAll(DryWells x, int i) {
        long sum = x.feed(0x64727920, 0x313b2020, 0x20202020, 0x20202020, 0x20202020);
        sum += x.rules(i % 21) + x.fault(i % 2) + x.rock(1, 2, 3) + x.village(i % 4, 1 + i);
        sum += x.chance(i % 3, 1 + i % 4, i % 16) ? 1 : 0;
        sum += x.way(i % 8, (i + 1) % 8, 1 + i % 9) ? 1 : 0;
        sum += x.go((i + 1) % 8) + x.drill(1, i % 2 == 0, 0) + x.likely(i % 4, i % 3, i % 2);
        sum += x.hope(1 + i % 7, 1 + i % 4) + x.plan(28, 99) + x.planned(i % 5, 0);
        sum += x.visit(1 + i % 7, 1 + i % 30, i % 2 == 0) ? 1 : 0;
        return sum + x.still(30, i % 2) + x.look(1 + i % 7, i % 7) + x.count(i % 6);
    }

    private static void nothingIsMade() {
        if (!(ManagementFactory.getThreadMXBean() instanceof com.sun.management.ThreadMXBean threads)) {
            System.out.println("RoomTest: this machine doesn't count bytes");
            return;
        }
        DryWells x = Worlds.full();
        // Of two rounds the first one makes what the machine itself needs to begin.
        long bytes = 0;
        for (int round = 0; round < 2; round++) {
            long start = threads.getCurrentThreadAllocatedBytes();
            for (int i = 0; i < 500; i++) {
                callAll(x, i);
            }
            bytes = threads.getCurrentThreadAllocatedBytes() - start;
        }
        Check.due("bytes made by 500 rounds of calls: " + bytes, bytes <= MOST_BYTES, true);
    }
}
