import java.lang.management.ManagementFactory;
import java.lang.reflect.Array;
import java.lang.reflect.Field;
import java.lang.reflect.Modifier;
import java.util.ArrayDeque;
import java.util.Collections;
import java.util.Deque;
import java.util.IdentityHashMap;
import java.util.Set;

/** All calls of a run share one room: an object takes little of it, and calls that throw nothing take none. */
public final class RoomTest {
    private static final int MOST_OBJECTS = 100;
    private static final int MOST_ELEMENTS = 20000;
    // Measuring and the list of texts take less than 100 bytes; one row of 256 numbers takes 1024 each time it is made.
    private static final long MOST_BYTES_MADE = 4000;

    private final Set<Object> seen = Collections.newSetFromMap(new IdentityHashMap<>());
    private final Deque<Object> open = new ArrayDeque<>();
    private long elements = 0;

    public static void main(String[] args) throws IllegalAccessException {
        RuleTables x = new RuleTables();
        String before = room(x);
        useIt(x);
        Check.same("objects and elements after some calls", room(x), before);
        callsMakeNothing();
        Check.end();
    }

    /** How many objects and elements an object holds, as a text. */
    private static String room(Object x) throws IllegalAccessException {
        RoomTest counter = new RoomTest();
        counter.add(x);
        while (!counter.open.isEmpty()) {
            counter.lookInto(counter.open.remove());
        }
        Check.same("few objects", "" + (counter.seen.size() <= MOST_OBJECTS), "true");
        Check.same("few elements", "" + (counter.elements <= MOST_ELEMENTS), "true");
        return counter.seen.size() + " objects, " + counter.elements + " elements";
    }

    private void add(Object part) {
        if (part != null && seen.add(part)) {
            open.add(part);
        }
    }

    private void lookInto(Object part) throws IllegalAccessException {
        if (part.getClass().isArray()) {
            elements += Array.getLength(part);
            if (part instanceof Object[] row) {
                for (Object inside : row) {
                    add(inside);
                }
            }
            return;
        }
        for (Field f : part.getClass().getDeclaredFields()) {
            if (!Modifier.isStatic(f.getModifiers())) {
                elements++;
                if (!f.getType().isPrimitive()) {
                    f.setAccessible(true);
                    add(f.get(part));
                }
            }
        }
    }

    private static void useIt(RuleTables x) {
        String[] texts = {"if a, b; Y- do x; NY do y; NN do x;", "if a; Y do x;", "if a; Y do x; - do y;", "if a, a;"};
        for (String text : texts) {
            Check.type(x, text);
            x.read();
            askAll(x);
        }
        Check.type(x, texts[0]);
        x.read();
        askAll(x);
        askTree(x);
    }

    private static void askAll(RuleTables x) {
        x.fault();
        for (int what = 0; what < 8; what++) {
            x.count(what);
        }
        x.amiss(2);
        x.rule(0, 0);
        x.name(false, 0, 0);
        x.meets(1);
        x.cases(0);
        x.cases(RuleTables.NONE);
        x.keep(0);
    }

    private static void askTree(RuleTables x) {
        x.node(0, 0);
        x.code(0);
        x.run(1, false);
        x.run(1, true);
        x.tests();
    }

    private static void callsMakeNothing() {
        if (!(ManagementFactory.getThreadMXBean() instanceof com.sun.management.ThreadMXBean bean)
                || !bean.isThreadAllocatedMemorySupported()) {
            return;
        }
        RuleTables x = new RuleTables();
        long me = Thread.currentThread().getId();
        useIt(x);
        bean.getThreadAllocatedBytes(me);
        long before = bean.getThreadAllocatedBytes(me);
        useIt(x);
        useIt(x);
        long made = bean.getThreadAllocatedBytes(me) - before;
        Check.same("few bytes are made (" + made + ")", "" + (made < MOST_BYTES_MADE), "true");
    }
}
