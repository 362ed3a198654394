import java.lang.management.ManagementFactory;
import java.lang.reflect.Array;
import java.lang.reflect.Field;
import java.lang.reflect.Modifier;
import java.nio.file.Files;
import java.nio.file.Path;
import java.util.ArrayDeque;
import java.util.Collections;
import java.util.Deque;
import java.util.IdentityHashMap;
import java.util.Set;

/** All calls of a run live in one room: a new object is small, and no call makes anything that stays or goes. */
public final class RoomTest {
    private static final int OBJECTS = 100;
    private static final long MOST_BYTES_OF_ONE = 40000;
    private static final int MOST_OBJECTS_OF_ONE = 100;
    private static final int MOST_ELEMENTS_OF_ONE = 5000;
    private static long sum = 0;

    public static void main(String[] args) throws Exception {
        boolean good = isSmall(new NumberComes());
        com.sun.management.ThreadMXBean counter = (com.sun.management.ThreadMXBean) ManagementFactory.getThreadMXBean();
        long thread = Thread.currentThread().getId();
        all(new NumberComes());
        counter.getThreadAllocatedBytes(thread);

        NumberComes[] objects = new NumberComes[OBJECTS];
        long start = counter.getThreadAllocatedBytes(thread);
        for (int i = 0; i < OBJECTS; i++) objects[i] = new NumberComes();
        long made = counter.getThreadAllocatedBytes(thread);
        for (int i = 0; i < OBJECTS; i++) all(objects[i]);
        long called = counter.getThreadAllocatedBytes(thread);

        long each = (made - start) / OBJECTS;
        long byCalls = called - made;
        System.out.println("bytes of a new object: " + each + ", of all calls on " + OBJECTS + " objects: " + byCalls + " (" + sum + ")");
        if (!good || each > MOST_BYTES_OF_ONE || byCalls > 10000) {
            System.out.println("too much");
            System.exit(1);
        }
    }

    /** Counts a new object, with all that it holds, as the room does: objects and arrays, fields and elements. */
    private static boolean isSmall(NumberComes x) throws Exception {
        Set<Object> seen = Collections.newSetFromMap(new IdentityHashMap<>());
        Deque<Object> left = new ArrayDeque<>();
        left.add(x);
        seen.add(x);
        int elements = 0;
        while (!left.isEmpty()) {
            Object o = left.remove();
            if (o.getClass().isArray()) {
                elements += Array.getLength(o);
                if (o instanceof Object[] all) for (Object inside : all) if (inside != null && seen.add(inside)) left.add(inside);
                continue;
            }
            for (Field f : o.getClass().getDeclaredFields()) {
                if (Modifier.isStatic(f.getModifiers())) continue;
                elements++;
                f.setAccessible(true);
                Object inside = f.getType().isPrimitive() ? null : f.get(o);
                if (inside != null && seen.add(inside)) left.add(inside);
            }
        }
        System.out.println("a new object: " + seen.size() + " objects and arrays, " + elements + " fields and elements");
        String told = String.format(java.util.Locale.ROOT, "some %d objects and %,d elements", (seen.size() + 5) / 10 * 10, (elements + 50) / 100 * 100);
        boolean isTold = Files.readString(Path.of("README.md")).contains(told);
        if (!isTold) System.out.println("README.md doesn't say: " + told);
        return isTold && seen.size() <= MOST_OBJECTS_OF_ONE && elements <= MOST_ELEMENTS_OF_ONE;
    }

    /** Every call of the face at least once, with a text that bars and weighs. */
    private static void all(NumberComes x) {
        for (int i = 0; i < 8; i++) sum += x.person(2 + i, i);
        // "bars clock=3 and who<9;worth got-1;  " and "bars ("
        sum += x.feed(0x62617273, 0x20636c6f, 0x636b3d33, 0x20616e64, 0x2077686f);
        sum += x.feed(0x3c393b77, 0x6f727468, 0x20676f74, 0x2d313b20, 0x20202020);
        sum += x.text();
        sum += x.feed(0x62617273, 0x20280000, 0, 0, 0) + x.end(6) + x.text() + x.fault(0) + x.fault(1);
        sum += (x.by(0) ? 1 : 0) + (x.change(0, 1, 0) ? 1 : 0) + (x.near(0, 1, true) ? 1 : 0) + (x.clock(12) ? 1 : 0);
        sum += x.given(2) + x.given(3) + x.need(0, 1, 2, 100) + x.need(0, 2, 2, 100) + x.heard(5, true) + x.talk(9, 0, 1);
        sum += x.image();
        for (int day = 0; day < 20; day += 10) {
            sum += (x.day(day) ? 1 : 0) + (x.speaks(0, 5) ? 1 : 0) + x.next(255, 1) + x.barred(255, 0) + x.together(3, 0, 1000);
            sum += x.alone(-1, 0, 2000) + x.secret(0, 1, 0, 2000) + x.secret(0, 1, 0, 0) + x.pass(0, 0, 7, 0) + x.judge() + x.overheard(0);
            sum += x.turn(255, 0, -1) + x.turn(255, 0, 7) + x.worth(-1) + x.give(3, 0) + x.mend(0) + x.cover() + x.apart(7, 2);
            sum += x.fits(60, -1) + x.who() + x.bits(0, 0) + x.other(0, 7, 2000, 0) + x.hush(0, 2000, 0) + x.hush(0, 2000, 2);
            sum += x.child(0, 1, 4, 60) + x.pairs(255, 1000, -1) + x.about(0);
        }
        sum += x.roll(0) + x.back();
    }
}
