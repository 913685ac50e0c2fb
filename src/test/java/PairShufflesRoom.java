import java.lang.management.ManagementFactory;
import java.lang.reflect.Array;
import java.lang.reflect.Field;
import java.lang.reflect.Modifier;
import java.util.ArrayDeque;
import java.util.Deque;
import java.util.IdentityHashMap;
import java.util.Map;
import java.util.TreeMap;
import java.util.function.ToIntFunction;

/** An object takes little room when it is made, and no call takes more. */
public final class PairShufflesRoom {
    private static final int MOST_OBJECTS = 40;
    private static final int MOST_ELEMENTS = 8000;
    // Two calls each and those of full() stay below 512, behind which nothing is promised.
    private static final int CALLS = 200;
    // One object a call would be 16 bytes at least, 3200 for all of them.
    private static final long MOST_BYTES = 3000;
    private static int wrong = 0;

    private static void holds(boolean right, String what) {
        if (!right) {
            wrong++;
            System.out.println("not so: " + what);
        }
    }

    private static boolean isOwn(Class<?> type) {
        return type == PairShuffles.class || type.getEnclosingClass() == PairShuffles.class;
    }

    /** The objects and arrays that hang on this one, each with its number of fields or elements. */
    private static Map<Object, Integer> roomOf(Object root) throws IllegalAccessException {
        Map<Object, Integer> seen = new IdentityHashMap<>();
        Deque<Object> open = new ArrayDeque<>();
        open.add(root);
        while (!open.isEmpty()) {
            Object one = open.remove();
            if (seen.containsKey(one)) {
                continue;
            }
            Class<?> type = one.getClass();
            seen.put(one, type.isArray() ? Array.getLength(one) : 0);
            if (type.isArray()) {
                addParts(one, open);
            }
            if (isOwn(type)) {
                seen.put(one, addFields(one, open));
            }
        }
        return seen;
    }

    private static void addParts(Object array, Deque<Object> open) {
        for (int i = 0; i < Array.getLength(array); i++) {
            Object part = Array.get(array, i);
            if (part != null && !array.getClass().getComponentType().isPrimitive()) {
                open.add(part);
            }
        }
    }

    private static int addFields(Object one, Deque<Object> open) throws IllegalAccessException {
        int fields = 0;
        for (Field field : one.getClass().getDeclaredFields()) {
            if (Modifier.isStatic(field.getModifiers())) {
                continue;
            }
            fields++;
            field.setAccessible(true);
            Object value = field.get(one);
            if (value != null && !field.getType().isPrimitive()) {
                open.add(value);
            }
        }
        return fields;
    }

    private static void testNewObject() throws IllegalAccessException {
        Map<Object, Integer> room = roomOf(new PairShuffles());
        int elements = room.values().stream().mapToInt(Integer::intValue).sum();
        holds(room.size() <= MOST_OBJECTS, "at most " + MOST_OBJECTS + " objects and arrays: " + room.size());
        holds(elements <= MOST_ELEMENTS, "at most " + MOST_ELEMENTS + " fields and elements: " + elements);
    }

    private static PairShuffles full() {
        PairShuffles x = new PairShuffles();
        for (int i = 0; i < 10; i++) {
            x.append(i % 4);
        }
        for (int i = 0; i < 5; i++) {
            x.keep();
        }
        for (char sign : "keep;row abcdabcdab;place 0 9999;next 3;turn;keep;".toCharArray()) {
            x.type(sign);
        }
        return x;
    }

    private static Map<String, ToIntFunction<PairShuffles>> calls() {
        Map<String, ToIntFunction<PairShuffles>> all = new TreeMap<>();
        all.put("append", x -> x.clear() + x.append(3));
        all.put("clear", PairShuffles::clear);
        all.put("code", x -> x.code(1, 2, 0));
        all.put("turn", PairShuffles::turn);
        all.put("letterAt", x -> x.letterAt(9));
        all.put("codeOf", x -> x.codeOf(3, 3));
        all.put("pairAt", x -> x.pairAt(15, 0));
        all.put("bias", x -> x.bias(0, 1, 1));
        all.put("shuffles", x -> x.shuffles(3));
        all.put("placeOf", x -> x.placeOf(0));
        all.put("shuffleAt", x -> x.shuffleAt(0, 9999, 9));
        all.put("next", x -> x.next(0));
        all.put("back", x -> x.back(0));
        all.put("at", x -> x.at(0, 25199));
        all.put("measure", x -> x.measure(1, 0, 0));
        all.put("surprise", x -> x.surprise(0, 2, 0, 0, 4));
        all.put("common", x -> x.common(0, 3));
        all.put("keep", x -> x.keep() + x.undo());
        all.put("recall", x -> x.recall(4));
        all.put("kinship", x -> x.kinship(4));
        all.put("count", x -> x.count(2) + x.count(3));
        all.put("type", x -> x.type('a'));
        all.put("clearText", PairShuffles::clearText);
        all.put("fault", x -> x.type(';') + x.fault(0));
        all.put("play", x -> x.play() + x.undo());
        return all;
    }

    private static long bytesOf(ToIntFunction<PairShuffles> call, PairShuffles x) {
        com.sun.management.ThreadMXBean threads = (com.sun.management.ThreadMXBean) ManagementFactory.getThreadMXBean();
        long before = threads.getCurrentThreadAllocatedBytes();
        for (int i = 0; i < CALLS; i++) {
            call.applyAsInt(x);
        }
        return threads.getCurrentThreadAllocatedBytes() - before;
    }

    private static void testCalls() throws IllegalAccessException {
        for (Map.Entry<String, ToIntFunction<PairShuffles>> call : calls().entrySet()) {
            PairShuffles x = full();
            int objects = roomOf(x).size();
            holds(call.getValue().applyAsInt(full()) >= 0, "the call of " + call.getKey() + " is no error");
            // What the machine itself makes when code runs for the first time is not the class's.
            bytesOf(call.getValue(), full());
            long bytes = bytesOf(call.getValue(), x);
            holds(bytes < MOST_BYTES, "the calls of " + call.getKey() + " make no objects: " + bytes + " bytes");
            holds(roomOf(x).size() == objects, "the object is as large as before the calls of " + call.getKey());
        }
    }

    public static void main(String[] args) throws IllegalAccessException {
        testNewObject();
        testCalls();
        System.out.println(wrong == 0 ? "the room is small" : wrong + " calls take too much room");
        if (wrong != 0) {
            System.exit(1);
        }
    }
}
