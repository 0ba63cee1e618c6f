import java.io.IOException;
import java.lang.reflect.Method;
import java.lang.reflect.Modifier;
import java.nio.file.Files;
import java.nio.file.Path;
import java.util.List;
import java.util.regex.Matcher;
import java.util.regex.Pattern;
import java.util.stream.Stream;

/** README.md: the calls of its example answer what it says, and it names each call and each test. */
public final class ReadmeTest {
    private static final Check CHECK = new Check();
    private static final Pattern CALL = Pattern.compile("road\\.(\\w+)\\(([^)]*)\\);\\s*// (-?\\d+)\\b.*");

    public static void main(String[] args) throws Exception {
        String readme = Files.readString(Path.of("README.md"));
        example(readme);
        calls(readme);
        tests(readme);
        CHECK.end();
    }

    /** Each line behind the first one is a call with its answer, and they are made in their order. */
    private static void example(String readme) throws Exception {
        List<String> lines = readme.substring(readme.indexOf("```java"), readme.lastIndexOf("```")).lines().skip(1).toList();
        CHECK.due("the first line makes an object", lines.get(0).equals("TroughTreaty road = new TroughTreaty();"), true);
        TroughTreaty road = new TroughTreaty();
        StringBuilder fed = new StringBuilder();
        for (String line : lines.subList(1, lines.size())) {
            Matcher call = CALL.matcher(line);
            CHECK.due(line + " is a call with its answer", call.matches(), true);
            if (call.matches()) {
                CHECK.due(line, answer(road, call.group(1), call.group(2)), Long.parseLong(call.group(3)));
                fed.append(call.group(1).equals("feed") ? bytes(call.group(2)) : "");
            }
        }
        CHECK.due("the text that is fed stands ahead of the example", readme.contains("\n    " + fed.toString().strip() + "\n"), true);
    }

    private static String bytes(String numbers) {
        StringBuilder bytes = new StringBuilder();
        for (String number : numbers.split(", ")) {
            for (int shift = 24; shift >= 0; shift -= 8) {
                bytes.append((char) (Integer.decode(number) >> shift & 255));
            }
        }
        return bytes.toString();
    }

    private static long answer(TroughTreaty road, String name, String told) throws Exception {
        String[] words = told.isEmpty() ? new String[0] : told.split(", ");
        for (Method method : TroughTreaty.class.getMethods()) {
            if (method.getName().equals(name) && method.getParameterCount() == words.length) {
                Object[] values = new Object[words.length];
                for (int i = 0; i < words.length; i++) {
                    boolean truth = method.getParameterTypes()[i] == boolean.class;
                    values[i] = truth ? (Object) Boolean.valueOf(words[i]) : Integer.decode(words[i]);
                }
                return ((Number) method.invoke(road, values)).longValue();
            }
        }
        throw new IllegalStateException("no such call: " + name);
    }

    private static void calls(String readme) {
        for (Method method : TroughTreaty.class.getDeclaredMethods()) {
            if (Modifier.isPublic(method.getModifiers())) {
                CHECK.due("README.md names " + method.getName(), readme.contains("`" + method.getName() + "`"), true);
            }
        }
    }

    private static void tests(String readme) throws IOException {
        try (Stream<Path> files = Files.list(Path.of("src/test/java"))) {
            for (String name : files.map(file -> file.getFileName().toString().replace(".java", "")).sorted().toList()) {
                CHECK.due("README.md names " + name, readme.contains("`" + name + "`") || readme.contains("`" + name + "."), true);
            }
        }
        for (Matcher named = Pattern.compile("`(\\w+Test)`").matcher(readme); named.find();) {
            boolean there = Files.exists(Path.of("src/test/java", named.group(1) + ".java"));
            CHECK.due("there is " + named.group(1), there, true);
        }
    }
}
