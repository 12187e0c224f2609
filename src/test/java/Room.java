import java.lang.management.ManagementFactory;
import java.lang.reflect.Array;
import java.lang.reflect.Field;
import java.lang.reflect.Modifier;
import java.util.ArrayDeque;
import java.util.Collections;
import java.util.Deque;
import java.util.IdentityHashMap;
import java.util.Set;

/**
 * An object under test whose calls are counted, with all that they make, from its constructor on:
 * what the object keeps is counted one by one; what was made beyond that and dropped is known only
 * in bytes, each of which is counted as a whole element.
 */
final class Room {
    private static final com.sun.management.ThreadMXBean THREADS =
            (com.sun.management.ThreadMXBean) ManagementFactory.getThreadMXBean();

    final RuleSheets it;
    private long bytes = 0;
    private int calls = 0;
    private long keptBytes = 0;
    private long keptElements = 0;
    private long keptObjects = 0;

    Room() {
        long before = THREADS.getCurrentThreadAllocatedBytes();
        it = new RuleSheets();
        bytes += THREADS.getCurrentThreadAllocatedBytes() - before;
    }

    /** Puts a text in the place of the one before, four signs a call, and reads it. */
    void read(String text) {
        int[] fours = new int[(text.length() + 3) / 4];
        for (int i = 0; i < text.length(); i++) {
            fours[i / 4] |= text.charAt(i) << (8 * (i % 4));
        }
        long before = THREADS.getCurrentThreadAllocatedBytes();
        it.end(0);
        for (int four : fours) {
            it.put(four);
        }
        int fault = it.read();
        bytes += THREADS.getCurrentThreadAllocatedBytes() - before;
        calls += 2 + fours.length;
        Check.due("read() of " + text.length() + " signs", fault, 0);
    }

    void due(String what, Check.Call call, long want) {
        long before = THREADS.getCurrentThreadAllocatedBytes();
        long got = call.make();
        bytes += THREADS.getCurrentThreadAllocatedBytes() - before;
        calls++;
        Check.due(what, got, want);
    }

    void refuses(String what, Class<? extends RuntimeException> kind, Check.Call call) {
        Class<?> got = null;
        long before = THREADS.getCurrentThreadAllocatedBytes();
        try {
            call.make();
        } catch (RuntimeException e) {
            got = e.getClass();
        }
        bytes += THREADS.getCurrentThreadAllocatedBytes() - before;
        calls++;
        Check.due(what, String.valueOf(got), String.valueOf(kind));
    }

    /** Checks that the run was one that the document allows, and that it made no more than this. */
    void finish(String what, long mostElements, long mostObjects) {
        count();
        long elements = keptElements + bytes - keptBytes;
        // An object or array takes 16 bytes at least.
        long objects = keptObjects + (bytes - keptBytes) / 16;
        System.out.println(what + ": " + calls + " calls, " + keptElements + " elements kept, at most "
                + elements + " made, of at most " + objects + " objects and arrays");
        Check.due(what + " has at most 512 calls", calls <= 512 ? 1 : 0, 1);
        Check.due(what + " counts all that is made", bytes >= keptBytes ? 1 : 0, 1);
        Check.due(what + " makes few elements", elements <= mostElements ? 1 : 0, 1);
        Check.due(what + " makes few objects", objects <= mostObjects ? 1 : 0, 1);
    }

    /** How many fields and elements the object keeps now. */
    long kept() {
        count();
        return keptElements;
    }

    private void count() {
        keptBytes = 0;
        keptElements = 0;
        keptObjects = 0;
        Set<Object> seen = Collections.newSetFromMap(new IdentityHashMap<>());
        Deque<Object> open = new ArrayDeque<>();
        open.add(it);
        while (!open.isEmpty()) {
            Object object = open.remove();
            if (seen.add(object)) {
                keptObjects++;
                if (object.getClass().isArray()) {
                    countArray(object);
                } else {
                    countFields(object, open);
                }
            }
        }
    }

    private void countArray(Object array) {
        int length = Array.getLength(array);
        Class<?> kind = array.getClass().getComponentType();
        int size = kind == boolean.class || kind == byte.class ? 1
                : kind == char.class || kind == short.class ? 2 : kind == long.class ? 8 : 4;
        keptElements += length;
        keptBytes += (long) size * length;
    }

    private void countFields(Object object, Deque<Object> open) {
        for (Field field : object.getClass().getDeclaredFields()) {
            if (!Modifier.isStatic(field.getModifiers())) {
                keptElements++;
                field.setAccessible(true);
                try {
                    Object value = field.get(object);
                    if (!field.getType().isPrimitive() && value != null) {
                        open.add(value);
                    }
                } catch (IllegalAccessException e) {
                    throw new IllegalStateException(e);
                }
            }
        }
    }
}
