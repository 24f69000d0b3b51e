import com.sun.management.ThreadMXBean;
import java.lang.management.ManagementFactory;
import java.lang.reflect.Array;
import java.lang.reflect.Field;
import java.lang.reflect.Modifier;
import java.util.Collections;
import java.util.IdentityHashMap;
import java.util.Set;

/** The room that an object takes: all of it is made with the object, no call makes more. */
public final class RoomTest {
    private static final int MOST_OBJECTS = 200;
    private static final int MOST_FIELDS_AND_ELEMENTS = 3000;

    private static final Set<Object> seen = Collections.newSetFromMap(new IdentityHashMap<>());
    private static int fieldsAndElements = 0;

    public static void main(String[] args) throws Exception {
        ClassAnswers x = new ClassAnswers();
        walk(x);
        System.out.println(seen.size() + " objects, " + fieldsAndElements + " fields and elements");
        Check.holds("few objects: " + seen.size(), seen.size() <= MOST_OBJECTS);
        Check.holds("few fields and elements: " + fieldsAndElements,
                fieldsAndElements <= MOST_FIELDS_AND_ELEMENTS);
        callsMakeNothing();
        Check.end();
    }

    private static void walk(Object one) throws Exception {
        if (one == null || !seen.add(one)) {
            return;
        }
        if (one.getClass().isArray()) {
            int length = Array.getLength(one);
            fieldsAndElements += length;
            for (int i = 0; i < length && !one.getClass().getComponentType().isPrimitive(); i++) {
                walk(Array.get(one, i));
            }
            return;
        }
        for (Field field : one.getClass().getDeclaredFields()) {
            if (!Modifier.isStatic(field.getModifiers())) {
                fieldsAndElements++;
                field.setAccessible(true);
                if (!field.getType().isPrimitive()) {
                    walk(field.get(one));
                }
            }
        }
    }

    /** The first lessons let the machine load what it needs; the last one is measured. */
    private static void callsMakeNothing() {
        ThreadMXBean threads = (ThreadMXBean) ManagementFactory.getThreadMXBean();
        ClassAnswers[] objects = new ClassAnswers[4];
        for (int i = 0; i < objects.length; i++) {
            objects[i] = new ClassAnswers();
        }
        long made = -1;
        int told = 0;
        for (ClassAnswers x : objects) {
            long before = threads.getCurrentThreadAllocatedBytes();
            told = lesson(x);
            made = threads.getCurrentThreadAllocatedBytes() - before;
        }
        Check.holds("the lesson comes to its end: " + told, told == 20);
        Check.due("bytes made by calls", made, 0);
    }

    private static int lesson(ClassAnswers x) {
        for (int i = 0; i < 16; i++) {
            x.box();
            x.road(i, i & 1, 21845 << (i & 1), i % 10);
        }
        x.rule(1, 3);
        x.seed(2026);
        for (int page = 0; page < 20; page++) {
            int kind = page % 3;
            x.ask(kind, 5, x.count(1) + 3);
            for (int i = 0; i < 8; i++) {
                x.send(i, kind == 2 ? (i % 2 == 0 ? 18056 : 668) : i % 8);
            }
            x.ticks(20);
            x.answers();
            x.share(1);
            x.number(2);
            x.order(0);
            x.base(0, 1, 0);
            x.about(1, 3);
            x.close(kind == 2 ? 18056 : 1);
            x.book(page, 2);
            x.marks(2);
            x.teams(4095, 0);
            x.best();
            x.draw();
        }
        return x.count(2);
    }
}
