import java.io.IOException;
import java.lang.reflect.Array;
import java.lang.reflect.Field;
import java.lang.reflect.Modifier;
import java.nio.file.Files;
import java.nio.file.Path;
import java.util.ArrayDeque;
import java.util.Collections;
import java.util.Deque;
import java.util.IdentityHashMap;
import java.util.Set;
import java.util.regex.Pattern;

/** The room that an object takes: all of it is made with the object, none by a call. */
public final class RoomTest {
    private static final Due DUE = new Due("RoomTest");
    private static final int MOST_OBJECTS = 200;
    private static final int MOST_ELEMENTS = 4000;

    public static void main(String[] args) throws IOException, IllegalAccessException {
        onlyConstructorsMake();
        int[] fresh = roomOf(new WheelOnWheel());
        DUE.holds("objects and arrays: " + fresh[0], fresh[0] <= MOST_OBJECTS);
        DUE.holds("fields and elements: " + fresh[1], fresh[1] <= MOST_ELEMENTS);
        int[] used = roomOf(Seen.some());
        DUE.is(0, "objects of a used one", used[0], fresh[0]);
        DUE.is(0, "elements of a used one", used[1], fresh[1]);
        DUE.close();
    }

    /** Each "new" is a field's own, or fills a row that a constructor makes. */
    private static void onlyConstructorsMake() throws IOException {
        Pattern field = Pattern.compile("    (    )?(private )?final \\w+(\\[\\])? \\w+ = new .*;");
        Pattern place = Pattern.compile(" +\\w+\\[i\\] = new (Row|Wheel|Ring)\\(\\);");
        int made = 0;
        for (String line : Files.readAllLines(Path.of("src/main/java/WheelOnWheel.java"))) {
            String code = line.replaceAll("//.*|/?\\*.*", "");
            if (Pattern.compile("\\bnew\\b|\\.clone\\(|copyOf|\\bString").matcher(code).find()) {
                made++;
                DUE.holds(line.strip() + " is a constructor's", field.matcher(code).matches() || place.matcher(code).matches());
            }
        }
        DUE.holds("places that make something: " + made, made > 10);
    }

    /** How many objects and arrays there are, and how many fields and elements in them. */
    private static int[] roomOf(Object start) throws IllegalAccessException {
        Set<Object> seen = Collections.newSetFromMap(new IdentityHashMap<>());
        Deque<Object> left = new ArrayDeque<>();
        left.add(start);
        int[] room = new int[2];
        while (!left.isEmpty()) {
            Object object = left.remove();
            if (seen.add(object)) {
                room[0]++;
                room[1] += object.getClass().isArray() ? elements(object, left) : fields(object, left);
            }
        }
        return room;
    }

    private static int elements(Object array, Deque<Object> left) {
        int length = Array.getLength(array);
        for (int i = 0; i < length && !array.getClass().getComponentType().isPrimitive(); i++) {
            left.add(Array.get(array, i));
        }
        return length;
    }

    private static int fields(Object object, Deque<Object> left) throws IllegalAccessException {
        int fields = 0;
        for (Field field : object.getClass().getDeclaredFields()) {
            if (!Modifier.isStatic(field.getModifiers())) {
                fields++;
                field.setAccessible(true);
                Object value = field.get(object);
                if (!field.getType().isPrimitive() && value != null) {
                    left.add(value);
                }
            }
        }
        return fields;
    }
}
