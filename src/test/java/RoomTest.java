import java.lang.reflect.Array;
import java.lang.reflect.Field;
import java.lang.reflect.Modifier;
import java.util.Collections;
import java.util.IdentityHashMap;
import java.util.Set;

/** Rule 12 of LANGUAGE.md, and the one room of 600,000 objects and 7.3 million elements. */
public final class RoomTest {
    private static final Check CHECK = new Check("RoomTest");
    // So that even a run that makes an object by each of its 512 calls has room.
    private static final int MOST_OBJECTS = 600_000 / Yard.PROMISED_CALLS;
    private static final int MOST_ELEMENTS = 7_300_000 / Yard.PROMISED_CALLS;

    private final Set<Object> seen = Collections.newSetFromMap(new IdentityHashMap<>());
    private int elements;

    public static void main(String[] args) throws IllegalAccessException {
        CHECK.about("All calls of one run live in one room");
        FleetYard yard = new FleetYard();
        RoomTest before = new RoomTest();
        before.walk(yard);
        CHECK.due("few objects", before.seen.size() <= MOST_OBJECTS, true);
        CHECK.due("few elements", before.elements <= MOST_ELEMENTS, true);
        CHECK.about("Rows are made in the constructor and used again");
        useMuch(yard);
        RoomTest after = new RoomTest();
        after.walk(yard);
        CHECK.due("as many objects", after.seen.size(), before.seen.size());
        CHECK.due("the same objects", before.seen.containsAll(after.seen), true);
        CHECK.due("as many elements", after.elements, before.elements);
        CHECK.end();
    }

    private static void useMuch(FleetYard yard) {
        String text = "P..P\nP..P\nP..P\nS..S\n";
        yard.feed(Yard.word(text, 0), Yard.word(text, 4), Yard.word(text, 8), Yard.word(text, 12),
                Yard.word(text, 16));
        CHECK.due("read()", yard.read(), 0);
        yard.fates(64);
        for (int i = 0; i < 64; i++) {
            yard.fate(i, i % 11 == 0 ? 1 : i % 8 * 2);
        }
        for (int i = 0; i < 60; i++) {
            yard.task(i % 2, (i + 1) % 2);
        }
        for (int i = 0; i < 12; i++) {
            yard.run(50);
        }
        CHECK.due("TASKS were FINISHED", yard.count(6) > 5, true);
    }

    private void walk(Object object) throws IllegalAccessException {
        if (object == null || !seen.add(object)) {
            return;
        }
        if (object.getClass().isArray()) {
            walkArray(object);
            return;
        }
        for (Field field : object.getClass().getDeclaredFields()) {
            if (!Modifier.isStatic(field.getModifiers())) {
                elements++;
                field.setAccessible(true);
                walkValue(field.getType(), field.get(object));
            }
        }
    }

    private void walkArray(Object array) throws IllegalAccessException {
        int length = Array.getLength(array);
        elements += length;
        for (int i = 0; i < length; i++) {
            walkValue(array.getClass().getComponentType(), Array.get(array, i));
        }
    }

    private void walkValue(Class<?> type, Object value) throws IllegalAccessException {
        if (!type.isPrimitive()) {
            walk(value);
        }
    }
}
