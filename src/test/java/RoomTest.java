import java.lang.management.ManagementFactory;
import java.lang.reflect.Array;
import java.lang.reflect.Field;
import java.lang.reflect.Modifier;
import java.util.ArrayDeque;
import java.util.Collections;
import java.util.Deque;
import java.util.IdentityHashMap;
import java.util.Set;

/** All calls of a run live in one room: what an object holds, and that its calls make nothing more. */
public final class RoomTest {
    private static final long ROOM_OBJECTS = 600_000, ROOM_FIELDS = 7_300_000;
    /** What the machine itself may make beside the calls. */
    private static final long SMALL = 2_000;

    public static void main(String[] args) throws IllegalAccessException {
        manyObjectsFit();
        callsMakeNothing();
        callsKeepNothing();
        Due.end("RoomTest");
    }

    /** Even a run whose every call makes an object anew stays in the room. */
    private static void manyObjectsFit() throws IllegalAccessException {
        long[] held = held(new AlmanacHouse());
        Due.yes("a run's objects fit: " + held[0] + " each", held[0] * House.MOST_CALLS <= ROOM_OBJECTS);
        Due.yes("a run's fields and elements fit: " + held[1] + " each", held[1] * House.MOST_CALLS <= ROOM_FIELDS);
    }

    private static void callsKeepNothing() throws IllegalAccessException {
        AlmanacHouse x = new AlmanacHouse();
        long[] before = held(x);
        useAll(x);
        long[] behind = held(x);
        Due.is("objects behind a run", behind[0], before[0]);
        Due.is("fields and elements behind a run", behind[1], before[1]);
    }

    private static void callsMakeNothing() {
        com.sun.management.ThreadMXBean threads =
            (com.sun.management.ThreadMXBean) ManagementFactory.getThreadMXBean();
        long id = Thread.currentThread().getId();
        useAll(new AlmanacHouse());
        AlmanacHouse x = new AlmanacHouse();
        long before = threads.getThreadAllocatedBytes(id);
        useAll(x);
        long made = threads.getThreadAllocatedBytes(id) - before;
        Due.yes("the calls of a run make nothing, not " + made + " bytes", made < SMALL);
    }

    /** The objects and arrays that one holds, itself too, and their fields and elements. */
    private static long[] held(Object first) throws IllegalAccessException {
        Set<Object> seen = Collections.newSetFromMap(new IdentityHashMap<>());
        Deque<Object> left = new ArrayDeque<>();
        left.add(first);
        seen.add(first);
        long fields = 0;
        while (!left.isEmpty()) {
            Object one = left.remove();
            if (one.getClass().isArray()) {
                fields += Array.getLength(one);
                continue;
            }
            for (Field f : one.getClass().getDeclaredFields()) {
                if (Modifier.isStatic(f.getModifiers())) {
                    continue;
                }
                fields++;
                f.setAccessible(true);
                Object value = f.getType().isPrimitive() ? null : f.get(one);
                if (value != null && seen.add(value)) {
                    left.add(value);
                }
            }
        }
        return new long[] {seen.size(), fields};
    }

    private static void useAll(AlmanacHouse x) {
        x.row(100, 200);
        x.parish(96, true);
        for (int i = 0; i < 28; i++) {
            x.feast(i % 3, 1 + i % 9, 1, i % 7 == 0 ? 1 : i % 5 + 1, i % 10);
            x.rule(0, i, 1, 1);
        }
        for (int c = 0; c < 8; c++) {
            x.name(c, 1, 5);
            x.addMonths(c, 150, 3);
            x.addYears(c, 150, 3);
            x.difference(c, 100, 90000, 2);
            x.birthday(c, 100, 2000);
            x.page(0, c, 1, 1);
            x.fromDay(c, 100, 2);
            x.toDay(c, 2, 3, 4);
            x.monthLength(c, 2, 3);
            x.yearLength(c, 2);
            x.months(c, 2);
            x.monthNamed(c, 5);
            x.spellings(5);
            x.sign(c, c);
        }
        for (int y = 1; y < 1500; y += 700) {
            x.feastDay(3, y);
            x.moved(3, y);
            x.movable(0, y);
            x.feastOn(365 * y, 0);
            x.isOff(0, 365 * y);
            x.worked(0, 365 * y, 365 * y + 799);
            x.nextOff(0, 365 * y);
            x.inRow(0, 365 * y);
            x.book(0, y);
            x.age(y);
            x.newMoon(y);
            x.estimate(y);
            x.light(y);
        }
        x.load(1, 4);
        x.byteAt(0);
        x.spoil(0, 1);
        x.verify();
        x.wipe();
        for (int i = 0; i < 20; i++) {
            x.undo();
            x.count(5);
        }
    }
}
