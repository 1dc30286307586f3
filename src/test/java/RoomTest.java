import java.lang.reflect.Array;
import java.lang.reflect.Field;
import java.lang.reflect.Modifier;
import java.util.ArrayDeque;
import java.util.Collections;
import java.util.Deque;
import java.util.IdentityHashMap;
import java.util.Set;

/**
 * The room that an object takes: all its rows are made with it, and no call makes it greater. That no call makes
 * anything that it drops again is LanguageTest's rule 12.
 */
public final class RoomTest {
    /** A run's room is some 600,000 objects and 7.3 million elements; one object keeps far below a hundredth. */
    private static final int MOST_OBJECTS = 6000;
    private static final int MOST_ELEMENTS = 73000;

    private static int objects;
    private static int elements;

    public static void main(String[] args) throws IllegalAccessException {
        StructureFinder finder = new StructureFinder();
        measure(finder);
        int objectsAtFirst = objects;
        int elementsAtFirst = elements;
        use(finder);
        measure(finder);
        System.out.println(objects + " objects and arrays, " + elements + " fields and elements");
        if (objects > MOST_OBJECTS || elements > MOST_ELEMENTS) {
            System.out.println("that is too much for one object");
            System.exit(1);
        }
        if (objects != objectsAtFirst || elements != elementsAtFirst) {
            System.out.println("a new one had " + objectsAtFirst + " and " + elementsAtFirst);
            System.exit(1);
        }
    }

    /** Every call, with the greatest tables and searches that are OUT. */
    private static void use(StructureFinder finder) {
        for (char letter : "abcdPQRS".toCharArray()) {
            finder.symbol(letter, 2);
        }
        for (int i = 0; i < 9; i++) {
            finder.type(Trial.packed("!=axyxx"), 7);
            finder.clause();
        }
        finder.drop();
        finder.find(4);
        finder.symbol('a', 2);
        finder.find(4);
        finder.more();
        for (int i = 0; i < 9; i++) {
            finder.type(Trial.packed("Paxyx|Qx"), 8);
        }
        finder.check();
        finder.type(Trial.packed("=xy"), 3);
        finder.check();
        finder.caseOf(0);
        finder.size();
        finder.value('a', 0, 0);
        finder.tries();
        finder.clauses();
    }

    private static void measure(StructureFinder finder) throws IllegalAccessException {
        objects = 0;
        elements = 0;
        Set<Object> seen = Collections.newSetFromMap(new IdentityHashMap<>());
        Deque<Object> open = new ArrayDeque<>();
        open.add(finder);
        while (!open.isEmpty()) {
            Object next = open.remove();
            if (!seen.add(next)) {
                continue;
            }
            objects++;
            if (next.getClass().isArray()) {
                addElements(next, open);
            } else {
                addFields(next, open);
            }
        }
    }

    private static void addElements(Object array, Deque<Object> open) {
        elements += Array.getLength(array);
        boolean numbers = array.getClass().getComponentType().isPrimitive();
        for (int i = 0; !numbers && i < Array.getLength(array); i++) {
            add(Array.get(array, i), open);
        }
    }

    private static void addFields(Object object, Deque<Object> open) throws IllegalAccessException {
        for (Field field : object.getClass().getDeclaredFields()) {
            if (!Modifier.isStatic(field.getModifiers())) {
                elements++;
                field.setAccessible(true);
                if (!field.getType().isPrimitive()) {
                    add(field.get(object), open);
                }
            }
        }
    }

    private static void add(Object found, Deque<Object> open) {
        if (found != null) {
            open.add(found);
        }
    }
}
