import java.lang.reflect.InvocationTargetException;
import java.lang.reflect.Method;
import java.lang.reflect.Modifier;
import java.util.ArrayList;
import java.util.Arrays;
import java.util.Comparator;
import java.util.List;
import java.util.Random;

/** Calls with any arguments in drawn states: nothing is thrown but what the face tells, and never by the machine. */
public final class WildTest {
    private static final int RUNS = 200;
    // With isBalanced() at the end these are the 512 calls that an object is used for.
    private static final int CALLS = 511;
    private static final int[] NUMBERS = {Integer.MIN_VALUE, Integer.MIN_VALUE + 1, -100, -2, -1, 0, 1, 2, 3, 4, 5, 6, 7,
        9, 10, 11, 12, 13, 16, 20, 23, 24, 25, 26, 50, 99, 100, 101, 111, 112, 500, 999, 1000, 1 << 20,
        Integer.MAX_VALUE - 1, Integer.MAX_VALUE};
    private static final String SIGNS = "rhsfwit.rhsfx";

    public static void main(String[] args) throws IllegalAccessException {
        List<Method> face = new ArrayList<>();
        for (Method method : Hundredward.class.getDeclaredMethods()) {
            if (Modifier.isPublic(method.getModifiers())) {
                face.add(method);
            }
        }
        face.sort(Comparator.comparing(Method::getName));
        for (int run = 0; run < RUNS; run++) {
            Random random = new Random(run);
            Hundredward town = new Hundredward();
            for (int i = 0; i < CALLS; i++) {
                call(town, face.get(random.nextInt(face.size())), random);
            }
            Checks.due("isBalanced after run " + run, town.isBalanced(), true);
        }
        Checks.finish();
    }

    private static void call(Hundredward town, Method method, Random random) throws IllegalAccessException {
        Class<?>[] types = method.getParameterTypes();
        Object[] arguments = new Object[types.length];
        for (int i = 0; i < types.length; i++) {
            boolean wild = random.nextInt(8) == 0;
            if (types[i] == char.class) {
                arguments[i] = wild ? (char) random.nextInt(65536) : SIGNS.charAt(random.nextInt(SIGNS.length()));
            } else {
                arguments[i] = wild ? NUMBERS[random.nextInt(NUMBERS.length)] : random.nextInt(25);
            }
        }
        try {
            method.invoke(town, arguments);
        } catch (InvocationTargetException e) {
            Class<?> thrown = e.getCause().getClass();
            String what = method.getName() + Arrays.toString(arguments) + " throws " + e.getCause();
            Checks.due(what, List.of(method.getExceptionTypes()).contains(thrown), true);
        }
    }
}
