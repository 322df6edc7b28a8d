import com.sun.management.ThreadMXBean;
import java.lang.management.ManagementFactory;
import java.lang.reflect.Array;
import java.lang.reflect.Field;
import java.lang.reflect.Modifier;
import java.util.ArrayDeque;
import java.util.Collections;
import java.util.Deque;
import java.util.IdentityHashMap;
import java.util.Set;

/** All calls of a run share one room: an object is small, and no call makes anything. */
public final class RoomTest {
    private static int wrong = 0;
    private static long sum = 0;

    private static void due(String what, long got, long most) {
        if (got > most) {
            wrong++;
            System.out.println(what + ": " + got + ", " + most + " at most are due");
        }
    }

    private static long[] sizeOf(Object root) throws IllegalAccessException {
        Set<Object> known = Collections.newSetFromMap(new IdentityHashMap<>());
        Deque<Object> open = new ArrayDeque<>();
        open.add(root);
        known.add(root);
        long parts = 0;
        while (!open.isEmpty()) {
            Object o = open.pop();
            if (o.getClass().isArray()) {
                parts += Array.getLength(o);
                for (int i = 0; !o.getClass().getComponentType().isPrimitive() && i < Array.getLength(o); i++) {
                    meet(Array.get(o, i), known, open);
                }
                continue;
            }
            for (Field f : o.getClass().getDeclaredFields()) {
                if (!Modifier.isStatic(f.getModifiers())) {
                    parts++;
                    f.setAccessible(true);
                    if (!f.getType().isPrimitive()) {
                        meet(f.get(o), known, open);
                    }
                }
            }
        }
        return new long[] {known.size(), parts};
    }

    private static void meet(Object o, Set<Object> known, Deque<Object> open) {
        if (o != null && known.add(o)) {
            open.push(o);
        }
    }

    /** Every call of the face once, the dearest ones among them. */
    private static void everyCall(SlateHills x) {
        sum += x.island(2) + x.clerk(3) + x.vines(4, 5);
        for (int i = 0; i < 8; i++) {
            sum += x.hill(i % 6, 2 * i, 8 * i);
        }
        sum += x.day(7) + x.putBack(3, 4) + x.day(6) + x.undo() + x.of(0, 4) + x.has(3);
        sum += x.high(0, 30) + x.goes(6) + x.lost(30) + x.chain(5) + x.plan(4, 3) + x.askFirst(30, 1) + x.calm(30, 0);
        sum += x.seen(0, 1, 2, 4) + x.which(0) + x.next(0) + x.mark(1, 2, 8) + x.kinds() + x.look();
        sum += x.waiting(0) + x.chance(4, 5, 6) + x.years(7, 60) + x.part(0) + x.image(0) + x.from(0) + x.from(1);
        sum += x.forget(0) + x.status(0) + x.count(1) + x.digest() + x.clear();
        String text = "island 1;hill 2 3 50;day 7 0 7;";
        for (int i = 0; i < text.length(); i++) {
            sum += x.type(text.charAt(i));
        }
        sum += x.read();
    }

    public static void main(String[] args) throws IllegalAccessException {
        long[] size = sizeOf(new SlateHills());
        System.out.println("an object is " + size[0] + " objects and arrays, " + size[1] + " fields and elements");
        due("objects and arrays of one object", size[0], 100);
        due("fields and elements of one object", size[1], 2000);

        ThreadMXBean threads = (ThreadMXBean) ManagementFactory.getThreadMXBean();
        SlateHills x = new SlateHills();
        everyCall(x);
        long self = Thread.currentThread().getId();
        long before = threads.getThreadAllocatedBytes(self);
        for (int n = 0; n < 200; n++) {
            everyCall(x);
        }
        long made = threads.getThreadAllocatedBytes(self) - before;
        // an object for each round of calls would be more than this; the machine itself may make a little
        due("bytes that 200 times every call made", made, 3000);
        System.out.println(wrong == 0 ? "the room is kept" : wrong + " are beyond the room");
        if (wrong != 0) {
            System.exit(1);
        }
    }
}
