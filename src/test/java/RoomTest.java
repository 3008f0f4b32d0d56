import java.lang.management.ManagementFactory;
import java.lang.reflect.Array;
import java.lang.reflect.Field;
import java.lang.reflect.Modifier;
import java.util.ArrayDeque;
import java.util.Collections;
import java.util.Deque;
import java.util.IdentityHashMap;
import java.util.Set;

/**
 * All calls of one run live in one room of 600,000 objects and 7.3 million fields and elements:
 * a new object must be small, and no call may make anything.
 */
public final class RoomTest {
    private static final int MOST_OBJECTS = 600;
    private static final int MOST_ELEMENTS = 6000;

    private static int wrong = 0;

    private static void must(boolean so, String rule) {
        if (!so) {
            wrong++;
            System.out.println("not so: " + rule);
        }
    }

    public static void main(String[] args) throws Exception {
        newObject();
        noCallMakesAnything();
        System.out.println(wrong == 0 ? "the room is wide enough" : wrong + " rules broken");
        if (wrong != 0) {
            System.exit(1);
        }
    }

    private static void newObject() throws Exception {
        Set<Object> seen = Collections.newSetFromMap(new IdentityHashMap<>());
        Deque<Object> open = new ArrayDeque<>();
        open.add(new CalledSquare());
        long elements = 0;
        while (!open.isEmpty()) {
            Object o = open.removeLast();
            if (!seen.add(o)) {
                continue;
            }
            if (o.getClass().isArray()) {
                elements += Array.getLength(o);
                for (int i = 0; i < Array.getLength(o) && !o.getClass().getComponentType().isPrimitive(); i++) {
                    if (Array.get(o, i) != null) {
                        open.add(Array.get(o, i));
                    }
                }
                continue;
            }
            for (Field f : o.getClass().getDeclaredFields()) {
                if (Modifier.isStatic(f.getModifiers())) {
                    continue;
                }
                elements++;
                f.setAccessible(true);
                if (!f.getType().isPrimitive() && f.get(o) != null) {
                    open.add(f.get(o));
                }
            }
        }
        System.out.println("a new object: " + seen.size() + " objects, " + elements + " fields and elements");
        must(seen.size() <= MOST_OBJECTS, "at most " + MOST_OBJECTS + " objects");
        must(elements <= MOST_ELEMENTS, "at most " + MOST_ELEMENTS + " fields and elements");
    }

    private static void noCallMakesAnything() {
        com.sun.management.ThreadMXBean threads = (com.sun.management.ThreadMXBean) ManagementFactory.getThreadMXBean();
        long id = Thread.currentThread().getId();
        CalledSquare x = new CalledSquare();
        allCalls(x);
        long before = threads.getThreadAllocatedBytes(id);
        for (int i = 0; i < 20; i++) {
            allCalls(x);
        }
        long made = threads.getThreadAllocatedBytes(id) - before;
        System.out.println("bytes made by calls: " + made);
        must(made < 4096, "calls make nothing");
    }

    private static void allCalls(CalledSquare x) {
        String text = "k(0 1 2)(3 4);u0 0 1;w0 11 2;d0 0;g0;p0;";
        for (int i = 0; i < text.length(); i++) {
            x.type(text.charAt(i));
        }
        x.does();
        x.clear();
        x.dancer(9, 1);
        x.call();
        x.exchanges(1, 2, 3);
        x.turns(1, 2, 3);
        x.wants(1, 2, 0);
        x.joins(0, 1);
        x.backwards(0);
        x.gives(1);
        x.home();
        x.of(0, 6);
        x.on(0);
        x.at(0, 0, 0);
        x.tells(0, 2);
        x.finds(2, 5, 5);
        x.found(0, 5, 5, 1);
        x.rows(0, 4);
        x.plans(0);
        x.judges();
        x.planned(0, 0);
        x.scraps();
        x.count(4);
        x.told(0);
        x.digest();
        x.back();
        x.back();
    }
}
