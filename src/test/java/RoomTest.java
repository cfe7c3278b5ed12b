import com.sun.management.ThreadMXBean;
import java.lang.management.ManagementFactory;
import java.lang.reflect.Array;
import java.lang.reflect.Field;
import java.lang.reflect.Modifier;
import java.util.ArrayDeque;
import java.util.Deque;
import java.util.IdentityHashMap;
import java.util.Map;

/** All calls of one run live in one room: what a new object takes of it is bounded, and calls take nothing. */
public final class RoomTest {
    private static final int MOST_OBJECTS = 150;
    private static final int MOST_CELLS = 5000;

    public static void main(String[] args) throws IllegalAccessException {
        aNewObject();
        callsTakeNothing();
        Checks.end();
    }

    private static void aNewObject() throws IllegalAccessException {
        Map<Object, Boolean> known = new IdentityHashMap<>();
        Deque<Object> open = new ArrayDeque<>();
        int cells = 0;
        open.add(new NumberedRings());
        while (!open.isEmpty()) {
            Object object = open.remove();
            if (known.put(object, true) == null) {
                cells += object.getClass().isArray() ? array(object, open) : fields(object, open);
            }
        }
        if (known.size() > MOST_OBJECTS || cells > MOST_CELLS) {
            Checks.fail("a new object has " + known.size() + " objects and arrays, " + cells + " fields and elements");
        }
    }

    private static int array(Object array, Deque<Object> open) {
        if (array instanceof Object[] objects) {
            for (Object object : objects) {
                open.add(object);
            }
        }
        return Array.getLength(array);
    }

    private static int fields(Object object, Deque<Object> open) throws IllegalAccessException {
        int fields = 0;
        for (Field field : object.getClass().getDeclaredFields()) {
            if (!Modifier.isStatic(field.getModifiers())) {
                fields++;
                field.setAccessible(true);
                if (!field.getType().isPrimitive()) {
                    open.add(field.get(object));
                }
            }
        }
        return fields;
    }

    private static void callsTakeNothing() {
        ThreadMXBean threads = (ThreadMXBean) ManagementFactory.getThreadMXBean();
        long thread = Thread.currentThread().getId();
        NumberedRings x = Checks.told("slots 4;maker 3;maker 2;taker 1 0;taker 2 1;");
        callEach(x);
        long before = threads.getThreadAllocatedBytes(thread);
        long ofAsking = threads.getThreadAllocatedBytes(thread) - before;
        before = threads.getThreadAllocatedBytes(thread);
        for (int i = 0; i < 20; i++) {
            callEach(x);
        }
        long taken = threads.getThreadAllocatedBytes(thread) - before - ofAsking;
        // The machine's own first uses may take a little; a row made by one kind of call would show.
        if (taken > 300) {
            Checks.fail("twenty rounds of calls took " + taken + " bytes");
        }
    }

    private static void callEach(NumberedRings x) {
        for (int i = 0; i < 3; i++) {
            x.type("x".charAt(0));
        }
        x.tells();
        x.clear();
        x.tells();
        for (int i = 0; i < 44; i++) {
            x.type("slots 4;maker 3;maker 2;taker 1 0;taker 2 1;".charAt(i));
        }
        x.tells();
        x.claims(0, 3);
        x.claims(1, 2);
        x.fills(0, 1);
        x.gaps(1);
        x.takes(0, 2);
        x.blamed();
        x.steps();
        x.keep(0);
        x.takes(1, 2);
        x.undo();
        x.calls(1);
        x.sees(2, 2);
        x.which();
        x.forget();
        x.look();
        x.rule(60, 2);
        x.waited(60, 1);
        x.done(60, 1);
        x.event(0, 2);
        x.taker(1, 3);
        x.maker(0, 3);
        x.count(6);
        x.back(0);
    }
}
