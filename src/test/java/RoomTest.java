import java.lang.management.ManagementFactory;
import java.lang.reflect.Array;
import java.lang.reflect.Field;
import java.lang.reflect.Modifier;
import java.util.ArrayDeque;
import java.util.Deque;
import java.util.IdentityHashMap;
import java.util.Map;

/** All calls of one run live in one room: what an object holds is small, and calls make nothing. */
public final class RoomTest {
    private static final int MOST_OBJECTS = 100;
    private static final int MOST_ELEMENTS = 4000;
    private static final int ROUNDS = 40;
    private static final String TEXT = "valley 10 10;loud 99;face 0 0 9;face 9 0 9;wood 4 4 1;field 0 0 2 2 9;field 3 3 9 9 5;"
        + "site 2 2 5;site 7 7 0;season 0 1;season 2 3;snow 3 3 9;maybe 1 1;maybe 8 8;maybe 5 3;law 2;";

    public static void main(String[] args) throws IllegalAccessException {
        SoldEchoes e = Check.valleyOf(TEXT);
        Map<Object, Integer> before = held(e);
        Check.so("objects and arrays: " + before.size(), before.size() <= MOST_OBJECTS);
        int elements = before.values().stream().mapToInt(n -> n).sum();
        Check.so("fields and elements: " + elements, elements <= MOST_ELEMENTS);
        long made = madeBy(e);
        Check.so("bytes made by " + ROUNDS + " rounds of calls: " + made, made < ROUNDS * 100L);
        Map<Object, Integer> after = held(e);
        Check.due("objects held behind all calls", after.size(), before.size());
        for (Object o : after.keySet()) {
            Check.so("held from the beginning: " + o.getClass(), before.containsKey(o));
        }
        Check.end("RoomTest");
    }

    /** Everything that the object reaches, each with its number of fields or elements. */
    private static Map<Object, Integer> held(Object first) throws IllegalAccessException {
        Map<Object, Integer> sizes = new IdentityHashMap<>();
        Deque<Object> open = new ArrayDeque<>();
        open.add(first);
        while (!open.isEmpty()) {
            Object o = open.remove();
            if (sizes.containsKey(o)) {
                continue;
            }
            if (o.getClass().isArray()) {
                sizes.put(o, Array.getLength(o));
                for (int i = 0; i < Array.getLength(o) && !o.getClass().getComponentType().isPrimitive(); i++) {
                    open.add(Array.get(o, i));
                }
                continue;
            }
            int fields = 0;
            for (Field f : o.getClass().getDeclaredFields()) {
                if (Modifier.isStatic(f.getModifiers())) {
                    continue;
                }
                fields++;
                f.setAccessible(true);
                if (!f.getType().isPrimitive()) {
                    open.add(f.get(o));
                }
            }
            sizes.put(o, fields);
        }
        return sizes;
    }

    private static long madeBy(SoldEchoes e) {
        com.sun.management.ThreadMXBean threads = (com.sun.management.ThreadMXBean) ManagementFactory.getThreadMXBean();
        if (!threads.isThreadAllocatedMemorySupported()) {
            return 0;
        }
        int[] bytes = Check.numbersOf(TEXT);
        // The first round loads classes.
        allCalls(e, bytes);
        long id = Thread.currentThread().getId();
        threads.getThreadAllocatedBytes(id);
        long start = threads.getThreadAllocatedBytes(id);
        for (int i = 0; i < ROUNDS; i++) {
            allCalls(e, bytes);
        }
        return threads.getThreadAllocatedBytes(id) - start;
    }

    private static int allCalls(SoldEchoes e, int[] bytes) {
        int sum = e.valley(0);
        for (int i = 0; i < bytes.length; i += 5) {
            sum += e.feed(bytes[i], bytes[i + 1], bytes[i + 2], bytes[i + 3], bytes[i + 4]);
        }
        sum += e.valley(TEXT.length()) + e.fault() + e.told(0) + e.cell(0, 0, 0) + e.image() + e.build(5, 5) + e.fell(4, 4)
            + e.years(1) + e.echoes(1, 1, 0) + e.echo(1, 1, 0, 0, 0) + e.count(1, 1, 0, 2) + e.field(0, 0)
            + e.most(0, 0, 0, 0) + e.least(0, 0, 0, 0) + e.mean(0, 0, 0, 0) + e.worth(0, 0) + e.gain(1, 1, 0)
            + e.building(0, 24, 0) + e.rests(0) + e.fair(0, 0) + e.trade(0, 0) + e.unlike(0, 1) + e.heard(1, 1, 1, 2)
            + e.loudest(1, 1, 1, 0) + e.compose(1, 1, 2) + e.book(9, 9, 1, 0) + e.explain(0) + e.ask(0) + e.forget()
            + e.snows(1, 1) + e.safe() + e.hush(1, 1) + e.deaf(0, 5) + e.restore() + e.status(0) + e.sums(0);
        return sum;
    }
}
