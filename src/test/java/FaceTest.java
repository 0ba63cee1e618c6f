import java.lang.reflect.Constructor;
import java.lang.reflect.Field;
import java.lang.reflect.Method;
import java.lang.reflect.Modifier;
import java.nio.file.Files;
import java.nio.file.Path;
import java.util.ArrayList;
import java.util.Arrays;
import java.util.List;
import java.util.regex.Pattern;

/** The public face as the document prints it, and what LANGUAGE.md asks that can be seen from outside. */
public final class FaceTest {
    private static final Check CHECK = new Check();
    private static final String FACE = """
            int feed(int,int,int,int,int)
            int text(int)
            int fault(int)
            int named(int,int)
            int horse(int,int) throws java.lang.IndexOutOfBoundsException,java.util.NoSuchElementException
            int trough(int,int)
            long law(int,int)
            int send(int,int)
            int fill(int,int)
            boolean lead(int,int)
            int go(int)
            int ahead(int,int,int)
            int falls(int)
            int nextFight(int)
            int sendIn(int,int,int)
            int pump(int)
            int stops(int,int)
            int reach(int)
            int cover(int)
            int round(int)
            int rests(int,int)
            int rest(int,int,int)
            long staysDry(int,int)
            int peace(int,int)
            int thirstiest()
            int driest()
            int nearest(int)
            int meet(int,int)
            int gather(int)
            int sides()
            int enemies(int)
            int runsDry(int)
            int see(int,int,int,boolean)
            int strike(int)
            boolean known(int)
            int thirsts(int)
            int chance(int,int,int,int)
            int tried(int,int,int)
            int undo()
            int keep()
            int back()
            int count(int)
            """;

    public static void main(String[] args) throws Exception {
        face();
        members();
        source();
        lengths();
        CHECK.end();
    }

    private static void face() {
        List<String> found = new ArrayList<>();
        for (Method method : TroughTreaty.class.getDeclaredMethods()) {
            if (!Modifier.isPrivate(method.getModifiers())) {
                found.add(method.toString().replace("TroughTreaty.", "").replace("public ", ""));
            }
        }
        List<String> wanted = new ArrayList<>(Arrays.asList(FACE.strip().split("\n")));
        wanted.sort(null);
        found.sort(null);
        CHECK.due("methods of the face: " + found, found.equals(wanted), true);
        Constructor<?>[] constructors = TroughTreaty.class.getDeclaredConstructors();
        CHECK.due("constructors", constructors.length, 1);
        CHECK.due("public", Modifier.isPublic(constructors[0].getModifiers()), true);
        CHECK.due("without parameters", constructors[0].getParameterCount(), 0);
        CHECK.due("public final", TroughTreaty.class.getModifiers(), Modifier.PUBLIC | Modifier.FINAL);
    }

    private static void members() {
        for (Field field : TroughTreaty.class.getDeclaredFields()) {
            boolean shown = field.getName().equals("NONE");
            CHECK.due(field + " is private", Modifier.isPrivate(field.getModifiers()), !shown);
            CHECK.due(field + " is no static state", Modifier.isStatic(field.getModifiers()) && !Modifier.isFinal(field.getModifiers()), false);
        }
        int classes = 1;
        for (Class<?> inside : TroughTreaty.class.getDeclaredClasses()) {
            classes++;
            CHECK.due(inside + " is static", Modifier.isStatic(inside.getModifiers()), true);
            for (Field field : inside.getDeclaredFields()) {
                CHECK.due(field + " is no static state", Modifier.isStatic(field.getModifiers()), false);
            }
            for (Method method : inside.getDeclaredMethods()) {
                boolean shared = Pattern.compile("(?m) " + method.getName() + "\\(").matcher(FACE).find();
                CHECK.due(method + " bears a name of the face", shared, false);
                CHECK.due(method + " has seven parameters at most", method.getParameterCount() <= 7, true);
            }
        }
        CHECK.due("twelve classes at most: " + classes, classes <= 12, true);
    }

    private static void source() throws Exception {
        String source = Files.readString(Path.of("src/main/java/TroughTreaty.java"));
        String code = source.replaceAll("(?s)/\\*.*?\\*/", "").replaceAll("//[^\n]*", "");
        for (String banned : new String[] {"->", "::", "\\btry\\b", "\\bcatch\\b", "\\bfinally\\b", "\\bsynchronized\\b",
            "\\bassert\\b", "Exact\\(", "\\bdouble\\b", "\\bfloat\\b", "System\\.(?!arraycopy)", "\" \\+", "\\+ \""}) {
            CHECK.due("in the source: " + banned, Pattern.compile(banned).matcher(code).find(), false);
        }
        long throwing = Pattern.compile("\\bthrow new\\b").matcher(code).results().count();
        CHECK.due("throws", throwing, 2);
        for (String line : code.split("\n")) {
            if (line.startsWith("import")) {
                CHECK.due(line, line.matches("import java\\.util\\.(Arrays|NoSuchElementException);"), true);
            }
        }
    }

    /** A method begins with a line that ends in ") {" or "throws .. {" and ends with a brace as far in. */
    private static void lengths() throws Exception {
        List<String> lines = Files.readAllLines(Path.of("src/main/java/TroughTreaty.java"));
        Pattern start = Pattern.compile("( {4}| {8})(?!if|for|while|switch|do|else)\\w[^=;]*\\)( throws [\\w, ]+)? \\{");
        int methods = 0;
        for (int i = 0; i < lines.size(); i++) {
            if (start.matcher(lines.get(i)).matches()) {
                methods++;
                String end = lines.get(i).replaceAll("\\w.*", "") + "}";
                int to = i;
                while (to < lines.size() && !lines.get(to).equals(end)) {
                    to++;
                }
                CHECK.due(lines.get(i).strip() + " has sixty lines at most", to - i < 60, true);
            }
        }
        CHECK.due("methods that were found", methods >= 42, true);
    }
}
