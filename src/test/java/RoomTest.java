import java.lang.management.ManagementFactory;
import java.lang.reflect.Array;
import java.lang.reflect.Field;
import java.lang.reflect.Modifier;
import java.util.ArrayDeque;
import java.util.IdentityHashMap;
import java.util.Map;

/** How much room an object takes, and that its calls make nothing more. */
public final class RoomTest {
    private static long objects;
    private static long elements;

    public static void main(String[] args) throws Exception {
        SoupNine x = new SoupNine();
        x.image(0);
        x.image(1);
        x.image(2);
        measure(x);
        System.out.println("an object with its images: " + objects + " objects, " + elements + " fields and elements");
        Due.is("objects are few", objects < 400, true);
        Due.is("fields and elements are few", elements < 30000, true);
        tellAll(x);
        // the machine makes things of its own at first
        made(x);
        Due.is("calls make nothing", made(x) < 500, true);
        Due.finish("RoomTest");
    }

    private static void measure(Object root) throws Exception {
        Map<Object, Boolean> seen = new IdentityHashMap<>();
        ArrayDeque<Object> left = new ArrayDeque<>();
        left.add(root);
        seen.put(root, true);
        while (!left.isEmpty()) {
            Object one = left.poll();
            objects++;
            if (one.getClass().isArray()) {
                elements += Array.getLength(one);
                for (int i = 0; one instanceof Object[] && i < Array.getLength(one); i++) {
                    add(((Object[]) one)[i], seen, left);
                }
                continue;
            }
            for (Field field : one.getClass().getDeclaredFields()) {
                if (!Modifier.isStatic(field.getModifiers())) {
                    elements++;
                    field.setAccessible(true);
                    if (!field.getType().isPrimitive()) {
                        add(field.get(one), seen, left);
                    }
                }
            }
        }
    }

    private static void add(Object one, Map<Object, Boolean> seen, ArrayDeque<Object> left) {
        if (one != null && seen.put(one, true) == null) {
            left.add(one);
        }
    }

    private static void tellAll(SoupNine x) {
        Due.tell(x, 0, -1, PromisesTest.TOWN);
        Due.tell(x, 1, -1, PromisesTest.EVENING);
        Due.tell(x, 2, -1, PromisesTest.BOOK);
        Due.tell(x, 3, -1, PromisesTest.LIST);
        x.image(0);
    }

    private static long made(SoupNine x) {
        com.sun.management.ThreadMXBean threads = (com.sun.management.ThreadMXBean) ManagementFactory.getThreadMXBean();
        long me = Thread.currentThread().getId();
        long sum = 0;
        long before = threads.getThreadAllocatedBytes(me);
        for (int i = 0; i < 20; i++) {
            x.again(0);
            x.image(1);
            x.feed(0x74616c6b, 0x3b74616c, 0x6b3b7461, 0x6c6b3b74, 0x616c6b3b);
            sum += x.text(1, 0) + x.state(0, 0, 3, 3) + x.drawn(0, i, 60, 0) + x.mean(0, 0, 9, true) + x.give(0, 0, 9, 3);
            sum += x.tells(0, 9, 3, true) + x.lack(0, 9, true) + x.way(0, i) + x.round(0, i) + x.talks(0) + x.lost(0, 1);
            sum += x.vans(0, true) + x.chat(0, true) + x.depot(0, true) + x.trail(0, 0, true) + x.lot(0, 0, true);
            sum += x.held(0, 3) + x.bring(0, 0, 1) + x.shod(0, -1) + x.look(0, -1) + x.shared(127, 127, 3, 3, 0);
            sum += x.worry(1, 1, 9, true) + x.sick(1, 9, 1, 2, 3, true) + x.pair(5, 5, 2) + x.call(1, 9, 1, 2, 9);
        }
        long bytes = threads.getThreadAllocatedBytes(me) - before;
        System.out.println("calls made " + bytes + " bytes (" + sum + ")");
        return bytes;
    }
}
