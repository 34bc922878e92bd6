import java.lang.reflect.InvocationTargetException;
import java.lang.reflect.Method;
import java.lang.reflect.Modifier;
import java.util.ArrayList;
import java.util.Arrays;
import java.util.Comparator;
import java.util.List;
import java.util.Random;

/** Any arguments in any state: a call answers, or throws exactly an exception that its face names. */
public final class ExtremesTest {
    private static final int[] EXTREMES = {
        Integer.MIN_VALUE, Integer.MIN_VALUE + 1, -99, -4, -3, -2, -1, 0, 1, 2, 3, 4, 5, 8, 9, 10, 11, 35, 36, 60, 61,
        99, 100, 700, 701, 0x20202020, 0x636c6572, Integer.MAX_VALUE - 1, Integer.MAX_VALUE,
    };

    private static Object[] arguments(Method method, Random random) {
        Object[] arguments = new Object[method.getParameterCount()];
        for (int i = 0; i < arguments.length; i++) {
            arguments[i] = random.nextInt(3) == 0 ? EXTREMES[random.nextInt(EXTREMES.length)] : random.nextInt(5);
        }
        return arguments;
    }

    private static boolean isNamed(Method method, Throwable thrown) {
        return Arrays.asList(method.getExceptionTypes()).contains(thrown.getClass());
    }

    private static List<Method> face() {
        List<Method> face = new ArrayList<>();
        for (Method method : MeerDrawers.class.getDeclaredMethods()) {
            if (Modifier.isPublic(method.getModifiers())) {
                face.add(method);
            }
        }
        face.sort(Comparator.comparing(Method::getName));
        return face;
    }

    public static void main(String[] args) throws IllegalAccessException {
        Check check = new Check();
        List<Method> face = face();
        for (int seed = 1; seed <= 600; seed++) {
            RandomTexts texts = new RandomTexts(seed);
            MeerDrawers x = new MeerDrawers();
            if (seed % 4 != 0) {
                Check.tell(x, texts.tell(new Model(), 10, 4));
            }
            for (int i = 0; i < 460; i++) {
                Method method = face.get(texts.random.nextInt(face.size()));
                Object[] arguments = arguments(method, texts.random);
                try {
                    method.invoke(x, arguments);
                } catch (InvocationTargetException e) {
                    boolean named = isNamed(method, e.getCause());
                    check.due("run " + seed + ": " + method.getName() + Arrays.toString(arguments) + " throws "
                            + e.getCause(), 1, () -> named ? 1 : 0);
                }
            }
        }
        check.end();
    }
}
