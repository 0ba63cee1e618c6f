import java.lang.reflect.InvocationTargetException;
import java.lang.reflect.Method;
import java.lang.reflect.Modifier;
import java.nio.charset.StandardCharsets;
import java.util.ArrayList;
import java.util.Collections;
import java.util.Comparator;
import java.util.List;
import java.util.Random;

/**
 * Runs of calls by chance (from fixed seeds) on the program and on Oracle: all answers are alike,
 * and nothing is thrown but what the document names. Two numbers behind the name: runs, first seed.
 */
public final class OracleTest {
    private static final Check CHECK = new Check();
    private static final List<Method> FACE = new ArrayList<>();
    private static final List<Method> ORACLE = new ArrayList<>();

    public static void main(String[] args) throws Exception {
        int runs = args.length > 0 ? Integer.parseInt(args[0]) : 250;
        int first = args.length > 1 ? Integer.parseInt(args[1]) : 1;
        for (Method method : TroughTreaty.class.getDeclaredMethods()) {
            if (Modifier.isPublic(method.getModifiers())) {
                FACE.add(method);
            }
        }
        FACE.sort(Comparator.comparing(Method::getName));
        for (Method method : FACE) {
            ORACLE.add(Oracle.class.getDeclaredMethod(method.getName(), method.getParameterTypes()));
        }
        CHECK.due("methods of the face", FACE.size(), 42);
        for (int seed = first; seed < first + runs; seed++) {
            run(seed);
        }
        CHECK.end();
    }

    private static void run(int seed) throws Exception {
        Random random = new Random(seed);
        TroughTreaty program = new TroughTreaty();
        Oracle oracle = new Oracle();
        StringBuilder told = new StringBuilder("run " + seed + ":");
        for (int i = 0; i < 200; i++) {
            if (i % 60 == 0) {
                told.setLength(0);
                told.append("run ").append(seed).append(':');
                String text = text(random, program, oracle);
                told.append(" [").append(text).append(']');
            }
            int which = random.nextInt(FACE.size());
            Method method = FACE.get(which);
            if (method.getName().equals("text") || method.getName().equals("feed") && random.nextInt(20) != 0) {
                continue;
            }
            Object[] values = values(random, method, told.length() % 7 == 0);
            told.append(' ').append(method.getName()).append(List.of(values));
            CHECK.due(told.toString(), answer(method, program, values), answer(ORACLE.get(which), oracle, values));
        }
    }

    private static long answer(Method method, Object on, Object[] values) throws Exception {
        try {
            Object answer = method.invoke(on, values);
            return answer instanceof Boolean b ? (b ? 1 : 0) : ((Number) answer).longValue();
        } catch (InvocationTargetException e) {
            String name = e.getCause().getClass().getName();
            if (name.equals("java.lang.IndexOutOfBoundsException")) {
                return -1001;
            }
            if (name.equals("java.util.NoSuchElementException")) {
                return -1002;
            }
            throw e;
        }
    }

    /** Mostly numbers that there may be, now and then any. */
    private static Object[] values(Random random, Method method, boolean wild) {
        Class<?>[] types = method.getParameterTypes();
        Object[] values = new Object[types.length];
        int[] wildOnes = {-1, -2, 6, 7, 12, 60, 61, 99, 100, 200, 201, Integer.MAX_VALUE, Integer.MIN_VALUE, 1 << 30};
        for (int i = 0; i < types.length; i++) {
            if (types[i] == boolean.class) {
                values[i] = random.nextBoolean();
            } else if (wild && random.nextInt(3) == 0) {
                values[i] = wildOnes[random.nextInt(wildOnes.length)];
            } else {
                values[i] = likely(random, method.getName(), i);
            }
        }
        return values;
    }

    private static int likely(Random random, String name, int i) {
        switch (name) {
            case "feed": return random.nextInt();
            case "named": return i == 0 ? random.nextInt(3) : Check.letters("" + (char) ('a' + random.nextInt(8)));
            case "lead": return random.nextInt(i == 0 ? 6 : 30);
            case "fill": return i == 0 ? random.nextInt(6) : random.nextInt(40);
            case "go": return random.nextInt(4) == 0 ? random.nextInt(60) : random.nextInt(5);
            case "ahead": return i == 0 ? random.nextInt(120) : random.nextInt(6);
            case "tried": return i == 0 ? random.nextInt(5) : i == 1 ? random.nextInt(2) * random.nextInt(6) : random.nextInt(80);
            case "pump": return random.nextInt(62);
            case "cover": return random.nextInt(40);
            case "staysDry": return random.nextInt(i == 0 ? 8 : 2);
            case "see": return i == 0 ? 1 + random.nextInt(25) : i == 1 ? random.nextInt(4) : random.nextInt(100);
            case "strike": case "known": return random.nextInt(9) - 1;
            case "chance": return i == 0 ? random.nextInt(Integer.MAX_VALUE) : i == 1 ? random.nextInt(70) : i == 2 ? random.nextInt(4) : random.nextInt(60);
            case "count": return random.nextInt(15);
            case "horse": return random.nextInt(i == 0 ? 6 : 8);
            default: return random.nextInt(5);
        }
    }

    // ---- texts

    private static String text(Random random, TroughTreaty program, Oracle oracle) {
        while (true) {
            StringBuilder text = new StringBuilder();
            for (String line : lines(random)) {
                text.append(line).append(random.nextInt(5) == 0 ? " ;\n" : ";");
            }
            if (text.length() > 700) {
                continue;
            }
            for (int i = 0; i < 12; i++) {
                tell(program, oracle, changed(random, text.toString()));
            }
            if (tell(program, oracle, text.toString()) >= 0) {
                return text.toString();
            }
        }
    }

    /** Both are told a text; LINES or the FAULT are alike. */
    private static int tell(TroughTreaty program, Oracle oracle, String text) {
        CHECK.due("text(0)", program.text(0), oracle.text(0));
        byte[] bytes = text.getBytes(StandardCharsets.ISO_8859_1);
        for (int[] five : Check.rows(bytes)) {
            CHECK.due("feed", program.feed(five[0], five[1], five[2], five[3], five[4]),
                    oracle.feed(five[0], five[1], five[2], five[3], five[4]));
        }
        int lines = program.text(bytes.length);
        CHECK.due("text: " + text, lines, oracle.text(bytes.length));
        CHECK.due("fault(0): " + text, program.fault(0), oracle.fault(0));
        CHECK.due("fault(1): " + text, program.fault(1), oracle.fault(1));
        CHECK.due("count(4): " + text, program.count(4), oracle.count(4));
        return lines;
    }

    private static final String[] BITS = {"road", "trough", "horse", "lap", "rain", "seed", "law", "dry", "gulp", "fight", "and",
        "or", "not", "thirst", "pace", "side", "water", "far", "hurt", "hour", ";", "(", ")", "<", "<=", "=", "<>", ">=", ">",
        "+", "-", "*", "/", "0", "1", "5", "60", "61", "99", "100", "9999", "10000", "a", "b", "zz", "abcdef", "abcdefg", " ",
        "\n", "!", "\u00ff", ""};

    private static String changed(Random random, String text) {
        StringBuilder changed = new StringBuilder(text);
        for (int i = random.nextInt(3); i >= 0 && changed.length() > 0; i--) {
            int at = random.nextInt(changed.length());
            int to = Math.min(changed.length(), at + random.nextInt(4));
            String bit = BITS[random.nextInt(BITS.length)];
            changed.replace(at, to, random.nextBoolean() ? bit : " " + bit + " ");
        }
        if (random.nextInt(6) == 0) {
            changed.setLength(random.nextInt(changed.length() + 1));
        }
        changed.setLength(Math.min(700, changed.length()));
        return changed.toString();
    }

    private static String number(Random random, int most) {
        return Integer.toString(random.nextInt(most + 1));
    }

    private static List<String> lines(Random random) {
        List<String> lines = new ArrayList<>();
        int length = 20;
        if (random.nextInt(4) != 0) {
            length = 2 + random.nextInt(random.nextInt(3) == 0 ? 59 : 10);
            lines.add("road " + length);
        }
        int troughs = Math.min(length, random.nextInt(7));
        int horses = random.nextInt(7);
        List<Integer> places = new ArrayList<>();
        for (int place = 0; place <= length; place++) {
            places.add(place);
        }
        Collections.shuffle(places, random);
        for (int i = 0; i < troughs; i++) {
            lines.add("trough " + (char) ('a' + i) + " " + places.get(i) + " " + number(random, 99) + " " + number(random, 9));
        }
        for (int i = 0; i < horses; i++) {
            int place = random.nextBoolean() && troughs > 0 ? places.get(random.nextInt(troughs)) : random.nextInt(length + 1);
            lines.add("horse " + (char) ('c' + i) + " " + number(random, 3) + " " + place + " " + number(random, 99) + " "
                    + (1 + random.nextInt(9)));
        }
        for (int i = random.nextInt(8); i > 0 && troughs > 0 && horses > 0; i--) {
            lines.add("lap " + (char) ('c' + random.nextInt(horses)) + " " + (char) ('a' + random.nextInt(troughs)) + " "
                    + number(random, random.nextBoolean() ? 99 : 9));
        }
        if (random.nextInt(4) != 0) {
            lines.add("rain " + (random.nextInt(4) == 0 ? 50 * random.nextInt(3) : random.nextInt(101)));
            lines.add("seed " + number(random, 99999));
        }
        for (String law : new String[] {"dry", "gulp", "fight"}) {
            if (random.nextInt(3) != 0) {
                String small = random.nextInt(3) == 0 ? "" : random.nextBoolean() ? "hour / 10 + " : "thirst / 9 - ";
                lines.add("law " + law + " " + small + e(random, 0, 4));
            }
        }
        return lines;
    }

    private static final String[] SIGNS = {"or", "and", "<", "<=", "=", "<>", ">=", ">", "+", "-", "*", "/"};
    private static final String[] NAMES = {"thirst", "pace", "side", "water", "far", "hurt", "hour"};

    /** Often an E by the grammar, with brackets or without; sometimes none, and then a FAULT. */
    private static String e(Random random, int depth, int most) {
        if (depth >= most || random.nextInt(3) == 0) {
            return random.nextBoolean() ? number(random, random.nextInt(5) == 0 ? 9999 : 9) : NAMES[random.nextInt(NAMES.length)];
        }
        String left = e(random, depth + 1, most);
        String right = e(random, depth + 1, most);
        String sign = SIGNS[random.nextInt(SIGNS.length)];
        String whole = left + (random.nextInt(4) == 0 && sign.length() < 3 && !sign.equals("or") ? sign : " " + sign + " ") + right;
        if (random.nextInt(6) == 0) {
            return "(not " + whole + ")";
        }
        return random.nextInt(3) != 0 ? "(" + whole + ")" : whole;
    }
}
