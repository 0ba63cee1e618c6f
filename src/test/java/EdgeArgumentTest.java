import java.lang.reflect.InvocationTargetException;
import java.lang.reflect.Method;
import java.lang.reflect.Modifier;
import java.util.ArrayList;
import java.util.Comparator;
import java.util.List;
import java.util.NoSuchElementException;
import java.util.Random;
import java.util.function.Supplier;

/** Any arguments in any state: no call but horse() throws, and horse() only what the document says. */
public final class EdgeArgumentTest {
    private static final Check CHECK = new Check();
    private static final int[] NUMBERS = {Integer.MIN_VALUE, Integer.MIN_VALUE + 1, -9001, -100, -2, -1, 0, 1, 2, 3, 5, 6, 7, 9, 10, 20, 24,
        60, 61, 99, 100, 200, 201, 700, 9000, 9001, 65536, Integer.MAX_VALUE - 1, Integer.MAX_VALUE};

    public static void main(String[] args) throws Exception {
        Random random = new Random(7);
        List<Supplier<TroughTreaty>> scenes = new ArrayList<>();
        scenes.add(TroughTreaty::new);
        scenes.add(Scenes::busy);
        scenes.add(Scenes::full);
        scenes.add(Scenes::fallen);
        for (Supplier<TroughTreaty> scene : scenes) {
            for (Method method : face()) {
                oneByOne(scene, method);
            }
            for (int run = 0; run < 60; run++) {
                mixed(scene.get(), random);
            }
        }
        CHECK.end();
    }

    private static List<Method> face() {
        List<Method> all = new ArrayList<>();
        for (Method method : TroughTreaty.class.getDeclaredMethods()) {
            if (Modifier.isPublic(method.getModifiers())) {
                all.add(method);
            }
        }
        all.sort(Comparator.comparing(Method::getName));
        return all;
    }

    /** Each parameter takes all numbers, the others staying small. */
    private static void oneByOne(Supplier<TroughTreaty> scene, Method method) throws Exception {
        Class<?>[] types = method.getParameterTypes();
        for (int at = 0; at < Math.max(1, types.length); at++) {
            for (int small = 0; small < 2; small++) {
                TroughTreaty x = scene.get();
                for (int number : NUMBERS) {
                    Object[] arguments = new Object[types.length];
                    for (int i = 0; i < types.length; i++) {
                        int value = i == at ? number : small;
                        arguments[i] = types[i] == boolean.class ? (Object) (value > 0) : (Object) value;
                    }
                    ask(x, method, arguments);
                }
            }
        }
    }

    private static void mixed(TroughTreaty x, Random random) throws Exception {
        List<Method> face = face();
        for (int call = 0; call < 400; call++) {
            Method method = face.get(random.nextInt(face.size()));
            Class<?>[] types = method.getParameterTypes();
            Object[] arguments = new Object[types.length];
            for (int i = 0; i < types.length; i++) {
                int value = random.nextInt(3) == 0 ? NUMBERS[random.nextInt(NUMBERS.length)] : random.nextInt(4);
                arguments[i] = types[i] == boolean.class ? (Object) (value > 1) : (Object) value;
            }
            ask(x, method, arguments);
        }
    }

    private static void ask(TroughTreaty x, Method method, Object[] arguments) throws Exception {
        String fault = "";
        try {
            method.invoke(x, arguments);
        } catch (InvocationTargetException e) {
            Throwable thrown = e.getCause();
            boolean fine = method.getName().equals("horse")
                    && (thrown.getClass() == IndexOutOfBoundsException.class || thrown.getClass() == NoSuchElementException.class);
            fault = fine ? "" : thrown.toString();
        }
        CHECK.due(method.getName() + java.util.Arrays.toString(arguments) + " threw " + fault, fault.isEmpty(), true);
    }
}
