import java.lang.reflect.Array;
import java.lang.reflect.Field;
import java.lang.reflect.Modifier;
import java.nio.file.Files;
import java.nio.file.Path;
import java.util.IdentityHashMap;
import java.util.Map;

/** The room that an object takes: little, all of it from the beginning, and none by a call. */
public final class RoomTest {
    private static final Check CHECK = new Check();

    /** Objects and arrays, and their fields and elements. */
    private record Room(int objects, int parts) { }

    public static void main(String[] args) throws Exception {
        Room fresh = roomOf(new TroughTreaty());
        CHECK.due(fresh + ": 200 objects at most", fresh.objects() <= 200, true);
        CHECK.due(fresh + ": 5000 fields and elements at most", fresh.parts() <= 5000, true);
        Room used = roomOf(Scenes.full());
        CHECK.due(used + " behind many calls, " + fresh + " at first", used.equals(fresh), true);
        nothingNew();
        CHECK.end();
    }

    private static Room roomOf(TroughTreaty road) throws IllegalAccessException {
        Map<Object, Integer> parts = new IdentityHashMap<>();
        gather(road, parts);
        return new Room(parts.size(), parts.values().stream().mapToInt(Integer::intValue).sum());
    }

    private static void gather(Object thing, Map<Object, Integer> parts) throws IllegalAccessException {
        if (thing == null || parts.containsKey(thing)) {
            return;
        }
        if (thing.getClass().isArray()) {
            CHECK.due(thing.getClass() + " is a row of plain values", thing.getClass().getComponentType().isPrimitive(), true);
            parts.put(thing, Array.getLength(thing));
            return;
        }
        parts.put(thing, 0);
        int many = 0;
        for (Field field : thing.getClass().getDeclaredFields()) {
            if (!Modifier.isStatic(field.getModifiers())) {
                many++;
                field.setAccessible(true);
                if (!field.getType().isPrimitive()) {
                    gather(field.get(thing), parts);
                }
            }
        }
        CHECK.due(thing.getClass() + " has some twenty fields at most", many <= 20, true);
        parts.put(thing, many);
    }

    /** An object is made for a field alone, where it is declared or in a constructor, or to be thrown. */
    private static void nothingNew() throws Exception {
        for (String line : Files.readAllLines(Path.of("src/main/java/TroughTreaty.java"))) {
            String code = line.strip();
            if (code.matches(".*\\bnew\\b.*") && !code.startsWith("*") && !code.startsWith("/")) {
                boolean fine = code.matches("(private )?final [\\w\\[\\]]+ \\w+ = new [^;]*;")
                        || code.matches("(scanner|lawReader) = new \\w+\\([^;]*\\);")
                        || code.matches("(default: )?throw new \\w+\\(\\);");
                CHECK.due(code + " makes no object in a call", fine, true);
            }
        }
    }
}
