import java.lang.management.ManagementFactory;
import java.lang.reflect.Array;
import java.lang.reflect.Field;
import java.lang.reflect.Modifier;
import java.util.ArrayDeque;
import java.util.Collections;
import java.util.Deque;
import java.util.IdentityHashMap;
import java.util.Set;

/** All calls of one run share one room, so an object is small, and a call makes none: only the constructor does. */
public final class RoomTest {
    private static final long NOISE = 20_000;
    private static final int MOST_OBJECTS = 400;
    private static final int MOST_PARTS = 25_000;

    private RoomTest() {
    }

    public static void main(String[] args) throws IllegalAccessException {
        com.sun.management.ThreadMXBean memory =
                (com.sun.management.ThreadMXBean) ManagementFactory.getThreadMXBean();
        Check c = new Check("RoomTest");
        work(new WalkFrames());
        long id = Thread.currentThread().getId();
        long start = memory.getThreadAllocatedBytes(id);
        WalkFrames x = new WalkFrames();
        long made = memory.getThreadAllocatedBytes(id);
        work(x);
        long worked = memory.getThreadAllocatedBytes(id);
        c.due("bytes of a new object below 200,000", made - start < 200_000 ? 0 : made - start, 0);
        c.due("bytes of 500 calls", worked - made < NOISE ? 0 : worked - made, 0);
        size(c, "a new object", new WalkFrames());
        size(c, "an object behind 500 calls", x);
        c.end();
    }

    /** The objects and arrays that an object holds, and their fields and elements. */
    private static void size(Check c, String what, WalkFrames x) throws IllegalAccessException {
        Set<Object> found = Collections.newSetFromMap(new IdentityHashMap<>());
        Deque<Object> open = new ArrayDeque<>();
        open.add(x);
        int parts = 0;
        while (!open.isEmpty()) {
            Object next = open.remove();
            if (found.add(next)) {
                parts += next.getClass().isArray() ? elements(next, open) : fields(next, open);
            }
        }
        c.due(what + " holds objects", found.size() <= MOST_OBJECTS ? 0 : found.size(), 0);
        c.due(what + " holds fields and elements", parts <= MOST_PARTS ? 0 : parts, 0);
    }

    private static int elements(Object array, Deque<Object> open) {
        int length = Array.getLength(array);
        if (!array.getClass().getComponentType().isPrimitive()) {
            for (int i = 0; i < length; i++) {
                open.add(Array.get(array, i));
            }
        }
        return length;
    }

    private static int fields(Object object, Deque<Object> open) throws IllegalAccessException {
        int found = 0;
        for (Field field : object.getClass().getDeclaredFields()) {
            if (!Modifier.isStatic(field.getModifiers())) {
                found++;
                field.setAccessible(true);
                if (!field.getType().isPrimitive() && field.get(object) != null) {
                    open.add(field.get(object));
                }
            }
        }
        return found;
    }

    /** Some 500 calls, each method among them. */
    private static void work(WalkFrames x) {
        for (int i = 0; i < 15; i++) {
            x.post(i * 5, i % 2, 8);
            x.set(8, i % 3);
            x.set(i % 8, 2 + i);
            x.hour();
            x.assign(i % 8, i % 6);
            x.goOut(i % 6);
            x.comeBack(i % 6);
            x.setRange(i, 3 * i, i % 8);
            x.take(i % 2);
            x.restore(0);
            x.undo();
            x.append(48);
            x.append(45);
            x.append(57);
            x.append(61);
            x.append(49);
            x.setRanges();
            x.append(70);
            x.setRanges();
            x.clearText();
            x.clearIn();
            x.wouldOverflow(i % 3);
            x.bestCarrier(i % 8);
            x.wouldDeliver(i % 6);
            x.count(i);
            x.letter(i, i % 9);
            x.frame(i % 8, i % 5);
            x.carrier(i % 6, i % 4);
            x.rounds(i % 6, i % 8);
            x.stretch(i, i % 3);
            x.inBag(i);
            x.inFrame(i % 8, i % 3);
        }
    }
}
