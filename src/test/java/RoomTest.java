import java.io.IOException;
import java.lang.reflect.Array;
import java.lang.reflect.Field;
import java.lang.reflect.Modifier;
import java.nio.file.Files;
import java.nio.file.Path;
import java.util.ArrayDeque;
import java.util.Collections;
import java.util.Deque;
import java.util.IdentityHashMap;
import java.util.Set;

/** The room that an object takes: it is small from the start, and no call makes it grow or makes what is dropped. */
final class RoomTest {
    private static final int MOST_OBJECTS = 200;
    private static final int MOST_ELEMENTS = 4000;

    public static void main(String[] arguments) throws IllegalAccessException, IOException {
        int[] first = roomOf(new SmokeRelay());
        Check.due(first[0] + " objects are few", first[0] <= MOST_OBJECTS, true);
        Check.due(first[1] + " elements are few", first[1] <= MOST_ELEMENTS, true);
        SmokeRelay used = afterManyCalls();
        int[] last = roomOf(used);
        Check.due("objects after many calls", last[0], first[0]);
        Check.due("elements after many calls", last[1], first[1]);
        whereObjectsAreMade();
        Check.finish("RoomTest");
    }

    /** All are made with the object itself, by fields and by the one constructor with a loop, but for exceptions. */
    private static void whereObjectsAreMade() throws IOException {
        Path source = Path.of(System.getProperty("source", "src/main/java/SmokeRelay.java"));
        for (String line : Files.readAllLines(source)) {
            String code = line.trim();
            boolean isMaking = code.contains("new ") && !code.startsWith("/") && !code.startsWith("*");
            if (isMaking && !code.matches("throw new \\w+Exception\\(.*")) {
                Check.due(code + " is in its place", code.matches("(private )?final .*")
                        || code.equals("rows[place] = new Row();"), true);
            }
        }
    }

    private static SmokeRelay afterManyCalls() {
        SmokeRelay relay = Bounds.fullRow();
        relay.setWind(2);
        relay.save();
        for (int time = 0; time < 20; time++) {
            Check.due("execute", Check.executeText(relay, "wind -1;send 7>0:p"), 2);
            Check.due("isConsistent", relay.isConsistent(), true);
            Check.due("writeRelay", relay.writeRelay(0, 0), 3);
        }
        relay.undo();
        relay.restore();
        return relay;
    }

    /** The number of objects and arrays, and that of all their fields and elements, but for the enum's constants. */
    private static int[] roomOf(Object start) throws IllegalAccessException {
        Set<Object> seen = Collections.newSetFromMap(new IdentityHashMap<>());
        Deque<Object> open = new ArrayDeque<>();
        open.add(start);
        int elements = 0;
        while (!open.isEmpty()) {
            Object next = open.remove();
            if (!(next instanceof Enum) && seen.add(next)) {
                elements += next.getClass().isArray() ? lookIntoArray(next, open) : lookIntoObject(next, open);
            }
        }
        return new int[] {seen.size(), elements};
    }

    private static int lookIntoArray(Object array, Deque<Object> open) {
        int length = Array.getLength(array);
        for (int place = 0; place < length && !array.getClass().getComponentType().isPrimitive(); place++) {
            if (Array.get(array, place) != null) {
                open.add(Array.get(array, place));
            }
        }
        return length;
    }

    private static int lookIntoObject(Object object, Deque<Object> open) throws IllegalAccessException {
        int fields = 0;
        for (Field field : object.getClass().getDeclaredFields()) {
            if (Modifier.isStatic(field.getModifiers())) {
                continue;
            }
            fields++;
            field.setAccessible(true);
            if (!field.getType().isPrimitive() && field.get(object) != null) {
                open.add(field.get(object));
            }
        }
        return fields;
    }
}
