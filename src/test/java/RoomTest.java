import com.sun.management.ThreadMXBean;
import java.lang.management.ManagementFactory;
import java.lang.reflect.Array;
import java.lang.reflect.Field;
import java.lang.reflect.Modifier;
import java.util.ArrayDeque;
import java.util.Collections;
import java.util.Deque;
import java.util.IdentityHashMap;
import java.util.Set;

/** LANGUAGE.md 12: what an object keeps, and what its calls make, stays small. */
public final class RoomTest {
    private static final Check check = new Check();
    /** So many objects, and fields and elements, would fill the room of a run that made a new one at each call. */
    private static final int OBJECTS_OF_ONE = 600000 / 512;
    private static final int ELEMENTS_OF_ONE = 7300000 / 512;
    private static final int BYTES_OF_SIX_REIGNS = 6 * 2048;

    public static void main(String[] args) throws IllegalAccessException {
        // First, while the machine still runs the calls as they stand: later it may spare what they make.
        callsMakeNothing();
        PaperChancery x = full();
        askAll(x);
        count(x);
        check.finish();
    }

    private static PaperChancery full() {
        PaperChancery x = Check.house(24, 16);
        for (int i = 0; i < 16; i++) {
            x.seat(i, i);
        }
        tellAll(x);
        return x;
    }

    private static void tellAll(PaperChancery x) {
        for (int i = 0; i < 6; i++) {
            x.feed(0x6c6f7720, 0x64617465, 0x3b626172, 0x20706f73, 0x74733e33);
            x.feed(0x3b686967, 0x68206461, 0x79733b20, 0x20202020, 0x20202020);
            x.reign(i * 100);
        }
        for (int i = 0; i < 48; i++) {
            x.paper(i % 24, i * 10, i, 255, 1, 1000);
        }
        for (int i = 0; i < 112; i++) {
            if (i % 8 == 0) {
                x.death(i / 8, 600 - i);
            } else {
                x.resign(i % 16, i % 24, 600 - i);
            }
        }
    }

    private static void askAll(PaperChancery x) {
        for (int i = 0; i < 16; i++) {
            x.holder(i, 300 + i);
            x.claims(i, 300 + i);
            x.claim(0);
            x.by(i, 400, i, i + 1);
            x.since(i);
            x.paperOf(i, 1);
            x.due(i, 500);
            x.posts(i, 500);
            x.wish(i, (i + 1) % 16);
            x.rings();
            x.got(i);
            x.all(5);
        }
    }

    private static void count(Object first) throws IllegalAccessException {
        Set<Object> seen = Collections.newSetFromMap(new IdentityHashMap<>());
        Deque<Object> open = new ArrayDeque<>();
        open.add(first);
        int elements = 0;
        while (!open.isEmpty()) {
            Object one = open.remove();
            if (seen.add(one)) {
                elements += one.getClass().isArray() ? elementsOf(one, open) : fieldsOf(one, open);
            }
        }
        check.due(seen.size() + " objects are few enough", seen.size() <= OBJECTS_OF_ONE, true);
        check.due(elements + " fields and elements are few enough", elements <= ELEMENTS_OF_ONE, true);
    }

    private static int elementsOf(Object array, Deque<Object> open) {
        for (int i = 0; i < Array.getLength(array) && !array.getClass().getComponentType().isPrimitive(); i++) {
            if (Array.get(array, i) != null) {
                open.add(Array.get(array, i));
            }
        }
        return Array.getLength(array);
    }

    private static int fieldsOf(Object one, Deque<Object> open) throws IllegalAccessException {
        int fields = 0;
        for (Field field : one.getClass().getDeclaredFields()) {
            if (!Modifier.isStatic(field.getModifiers())) {
                fields++;
                field.setAccessible(true);
                if (!field.getType().isPrimitive() && field.get(one) != null) {
                    open.add(field.get(one));
                }
            }
        }
        return fields;
    }

    /** All rows are made with the object: its calls make the rules of its reigns alone. */
    private static void callsMakeNothing() {
        ThreadMXBean threads = (ThreadMXBean) ManagementFactory.getThreadMXBean();
        PaperChancery x = Check.seated(16);
        long atFirst = threads.getCurrentThreadAllocatedBytes();
        tellAll(x);
        askAll(x);
        long made = threads.getCurrentThreadAllocatedBytes() - atFirst;
        check.due(made + " bytes made by a run of calls are few enough", made <= BYTES_OF_SIX_REIGNS, true);
    }
}
