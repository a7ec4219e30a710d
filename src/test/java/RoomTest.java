import java.lang.management.ManagementFactory;
import java.lang.reflect.Array;
import java.lang.reflect.Field;
import java.lang.reflect.Modifier;
import java.util.ArrayDeque;
import java.util.Deque;
import java.util.IdentityHashMap;
import java.util.Map;
import java.util.NoSuchElementException;

/** One object and its 512 calls stay far below the room of a run: all rows are made once, none by a call. */
public final class RoomTest {
    private static int answers = 0;

    public static void main(String[] args) throws IllegalAccessException {
        Drive drive = new Drive("room");
        drive.due(0, "count", 1);
        TorusZones net = new TorusZones();
        int[] made = sizeOf(net);
        System.out.println("objects and arrays " + made[0] + ", fields and elements " + made[1]);
        if (made[0] > 600 || made[1] > 100_000) {
            drive.fail("a new object takes too much room");
        }
        manyCalls(new TorusZones());
        com.sun.management.ThreadMXBean threads = (com.sun.management.ThreadMXBean) ManagementFactory.getThreadMXBean();
        long before = threads.getCurrentThreadAllocatedBytes();
        manyCalls(net);
        long bytes = threads.getCurrentThreadAllocatedBytes() - before;
        System.out.println("bytes made by calls " + bytes + " (" + answers + ")");
        if (bytes > 20_000) {
            drive.fail("calls make objects");
        }
        int[] then = sizeOf(net);
        if (then[0] != made[0] || then[1] != made[1]) {
            drive.fail("an object grows by its calls");
        }
        deepRun(drive);
        Drive.finish();
    }

    private static void manyCalls(TorusZones x) {
        for (int node = 0; node < 10; node++) {
            answers += x.join(node, node, node * 7 % 32, node * 13 % 32);
        }
        for (int i = 0; i < 40; i++) {
            answers += x.put(i, i) + x.go(i % 10, 0) + x.join(i, i, i % 32, i * 5 % 32) + x.mend() + x.tidy();
            answers += x.ways(0, 2) + x.reality(0, 3) + x.seek(1, i, 3) + x.way(2, 0, i % 32, 0, -1) + x.friends(3);
            x.image();
            answers += x.back() ? 1 : 0;
            answers += x.feed(0x74696479, 0x20202020, 0x20202020, 0x20202020, 0x20202020) + x.acts();
        }
    }

    /** How many objects and arrays hang on an object, and how many fields and elements they have together. */
    private static int[] sizeOf(Object root) throws IllegalAccessException {
        int[] size = new int[2];
        Map<Object, Boolean> seen = new IdentityHashMap<>();
        Deque<Object> open = new ArrayDeque<>();
        open.add(root);
        seen.put(root, true);
        while (!open.isEmpty()) {
            Object one = open.remove();
            size[0]++;
            if (one.getClass().isArray()) {
                size[1] += Array.getLength(one);
                for (int i = 0; i < Array.getLength(one) && !one.getClass().getComponentType().isPrimitive(); i++) {
                    visit(Array.get(one, i), seen, open);
                }
            } else {
                for (Field field : one.getClass().getDeclaredFields()) {
                    if (!Modifier.isStatic(field.getModifiers())) {
                        size[1]++;
                        field.setAccessible(true);
                        visit(field.getType().isPrimitive() ? null : field.get(one), seen, open);
                    }
                }
            }
        }
        return size;
    }

    private static void visit(Object next, Map<Object, Boolean> seen, Deque<Object> open) {
        if (next != null && seen.put(next, true) == null) {
            open.add(next);
        }
    }

    /** Comings and goings at single cells: zones get many and deep, and every answer still comes. */
    private static void deepRun(Drive drive) {
        TorusZones x = new TorusZones();
        int most = 0;
        for (int i = 0; i < 3000; i++) {
            try {
                x.join(0, 0, i * 11 % 32, i * i % 32);
            } catch (IllegalStateException e) {
                answers++;
            }
            try {
                x.go(i * 7 % 10, i % 5 == 0 ? 1 : 0);
            } catch (IllegalStateException e) {
                answers++;
            }
            try {
                x.go(i % 10, 2);
            } catch (IllegalStateException | NoSuchElementException e) {
                answers++;
            }
            most = Math.max(most, x.reality(0, 0));
            answers += x.ways(0, 2) + x.reality(0, 3);
            int cells = 0;
            for (int node = 0; node < 10; node++) {
                cells += x.held(node, 0, 1);
            }
            if (cells != (x.count(1) == 0 && x.count(2) == 0 ? 0 : 1024)) {
                drive.fail("the zones have " + cells + " cells together");
            }
        }
        System.out.println("most zones " + most);
    }
}
