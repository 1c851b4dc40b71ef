import com.sun.management.ThreadMXBean;
import java.lang.management.ManagementFactory;
import java.lang.reflect.Array;
import java.lang.reflect.Field;
import java.lang.reflect.Modifier;
import java.util.ArrayDeque;
import java.util.Collections;
import java.util.Deque;
import java.util.IdentityHashMap;
import java.util.Set;

/**
 * All calls of a run live in one room. The dearest call is a new object: a run of 512 of them must fit,
 * and no later call may make anything (but at its exception).
 */
public final class RoomTest {
    private static final Due due = new Due();
    private static final int CALLS = 512;
    private static final int MOST_OBJECTS = 600000 / CALLS;
    private static final int MOST_ELEMENTS = 7300000 / CALLS;
    // Less than the smallest row at each second(), and more than the measuring itself may make.
    private static final long MOST_BYTES = 4L * CALLS;

    public static void main(String[] args) throws IllegalAccessException {
        aNewObjectFits();
        nothingIsKeptLater();
        nothingIsMadeLater();
        due.finish();
    }

    private static void aNewObjectFits() throws IllegalAccessException {
        Set<Object> held = held(new PlainCobol(5000));
        int elements = elements(held);
        due.holds(held.size() + " objects, at most " + MOST_OBJECTS, held.size() <= MOST_OBJECTS);
        due.holds(elements + " elements, at most " + MOST_ELEMENTS, elements <= MOST_ELEMENTS);
    }

    private static void nothingIsKeptLater() throws IllegalAccessException {
        PlainCobol x = new PlainCobol(5000);
        Set<Object> before = held(x);
        useAll(x);
        Set<Object> after = held(x);
        due.is("objects that are held after 512 calls", after.size(), before.size());
        due.holds("they are the same ones", before.containsAll(after));
    }

    private static void nothingIsMadeLater() {
        ThreadMXBean threads = (ThreadMXBean) ManagementFactory.getThreadMXBean();
        if (!threads.isThreadAllocatedMemorySupported()) {
            return;
        }
        long thread = Thread.currentThread().getId();
        PlainCobol x = new PlainCobol(5000);
        threads.getThreadAllocatedBytes(thread);
        long before = threads.getThreadAllocatedBytes(thread);
        useAll(x);
        long made = threads.getThreadAllocatedBytes(thread) - before;
        due.holds("512 calls made " + made + " bytes, at most " + MOST_BYTES, made <= MOST_BYTES);
    }

    /** 512 calls: each kind of call, and the row of acts fills up. */
    private static void useAll(PlainCobol x) {
        x.cell(4, 80);
        x.cell(1, 1);
        x.cell(18, -7);
        x.node(3, 2, 1);
        x.node(10, 1, 3);
        x.node(9, 3, 2470);
        x.node(6, 2, 3);
        x.node(6, 1, 4);
        x.node(8, 1, 5);
        x.run(6);
        for (int i = 0; i < 50; i++) {
            x.act(1 + i % 8, i % 5, i % 5 == 4 ? 101 + i : 1 + i % 3, 40 + i);
            x.commit(1 + i % 8);
            x.second();
            x.record(0, i, 1);
            x.segment(i, 4);
            x.screen(24, i);
            x.number(i);
            x.real(i);
            x.at(3, i % 18);
            x.run(i % 8);
        }
        x.count(2);
        x.refused();
    }

    /** All objects and rows that can be reached from an object, itself too. */
    private static Set<Object> held(PlainCobol x) throws IllegalAccessException {
        Set<Object> held = Collections.newSetFromMap(new IdentityHashMap<>());
        Deque<Object> open = new ArrayDeque<>();
        open.add(x);
        while (!open.isEmpty()) {
            Object one = open.remove();
            if (!held.add(one)) {
                continue;
            }
            if (one.getClass().isArray()) {
                addParts(one, open);
            } else {
                addFields(one, open);
            }
        }
        return held;
    }

    private static void addParts(Object row, Deque<Object> open) {
        if (row instanceof Object[] parts) {
            for (Object part : parts) {
                due.holds("no part is missing", part != null);
                open.add(part);
            }
        }
    }

    private static void addFields(Object one, Deque<Object> open) throws IllegalAccessException {
        for (Field field : one.getClass().getDeclaredFields()) {
            if (!Modifier.isStatic(field.getModifiers()) && !field.getType().isPrimitive()) {
                field.setAccessible(true);
                due.holds(field + " is not missing", field.get(one) != null);
                open.add(field.get(one));
            }
        }
    }

    private static int elements(Set<Object> held) {
        int elements = 0;
        for (Object one : held) {
            elements += one.getClass().isArray() ? Array.getLength(one)
                : one.getClass().getDeclaredFields().length;
        }
        return elements;
    }
}
