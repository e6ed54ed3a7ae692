import java.lang.management.ManagementFactory;
import java.lang.reflect.Array;
import java.lang.reflect.Field;
import java.lang.reflect.Modifier;
import java.util.ArrayDeque;
import java.util.Collections;
import java.util.IdentityHashMap;
import java.util.Set;

/** All calls of a run share one room: an object is small, and no call makes anything. */
public final class RoomTest {
    private static final int MOST_OBJECTS = 60;
    private static final int MOST_CELLS = 6000;
    private static int wrong = 0;

    public static void main(String[] args) throws Exception {
        ToneSets x = new ToneSets();
        weigh(x, "a new object");
        playDearCalls(x);
        weigh(x, "a used object");
        callsMakeNothing();
        System.out.println(wrong == 0 ? "room: all is as due" : "room: " + wrong + " faults");
        if (wrong != 0) {
            System.exit(1);
        }
    }

    private static void must(boolean so, String what) {
        if (!so) {
            wrong++;
            System.out.println("not so: " + what);
        }
    }

    private static void weigh(Object root, String name) throws IllegalAccessException {
        Set<Object> seen = Collections.newSetFromMap(new IdentityHashMap<>());
        ArrayDeque<Object> open = new ArrayDeque<>();
        open.add(root);
        seen.add(root);
        int cells = 0;
        while (!open.isEmpty()) {
            Object one = open.remove();
            if (one.getClass().isArray()) {
                cells += Array.getLength(one);
                continue;
            }
            for (Field field : one.getClass().getDeclaredFields()) {
                if (Modifier.isStatic(field.getModifiers())) {
                    continue;
                }
                cells++;
                field.setAccessible(true);
                Object part = field.getType().isPrimitive() ? null : field.get(one);
                if (part != null && seen.add(part)) {
                    open.add(part);
                }
            }
        }
        System.out.println("room: " + name + " has " + seen.size() + " objects and " + cells + " fields and elements");
        must(seen.size() <= MOST_OBJECTS, name + " has at most " + MOST_OBJECTS + " objects");
        must(cells <= MOST_CELLS, name + " has at most " + MOST_CELLS + " fields and elements");
    }

    private static void callsMakeNothing() {
        com.sun.management.ThreadMXBean threads = (com.sun.management.ThreadMXBean) ManagementFactory.getThreadMXBean();
        long id = Thread.currentThread().getId();
        ToneSets x = new ToneSets();
        playDearCalls(x);
        threads.getThreadAllocatedBytes(id);
        long before = threads.getThreadAllocatedBytes(id);
        playDearCalls(x);
        long made = threads.getThreadAllocatedBytes(id) - before;
        // the measuring itself may make a little
        must(made < 4096, "some 500 calls make nothing; they made " + made + " bytes");
    }

    private static void playDearCalls(ToneSets x) {
        for (int i = 0; i < 16; i++) {
            x.ring(12 - i % 2);
            x.seed(i * 7919);
            x.drift(8);
            for (int what = 0; what < 10; what++) {
                x.told(what);
            }
            for (int what = 0; what < 7; what++) {
                x.at(i % 8, what);
            }
            x.change(0, 5, 0);
            x.inside(0, 1);
            x.way(1, 2);
            x.nearest(3, 4, 0);
            x.join(5, 6, 2);
            x.swap(6, 7);
            x.take(7);
            x.put(0);
            x.write(i % 7, i);
            x.undo(2);
            x.keep(i % 2);
            x.goBack(i % 2);
            x.put(63 << i % 4);
            x.take(0);
            x.put(1365);
            x.easy(7, 6, 0);
            x.formAt(6, 30);
        }
    }
}
