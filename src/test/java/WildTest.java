import java.lang.reflect.InvocationTargetException;
import java.lang.reflect.Method;
import java.util.ArrayList;
import java.util.Arrays;
import java.util.Comparator;
import java.util.List;
import java.util.Random;

/** Calls of every method with wild arguments, and tapes of drawn bytes: none may throw, in any state. */
public final class WildTest {
    private static final int[] WILD = {Integer.MIN_VALUE, Integer.MIN_VALUE + 1, -1000, -2, -1, 0, 0, 1, 1, 2, 3, 4, 5, 6, 7, 8, 9, 10, 11,
        12, 15, 16, 39, 40, 99, 100, 111, 112, 119, 120, 121, 999, 1000, 0x40000000, Integer.MAX_VALUE - 1, Integer.MAX_VALUE};

    public static void main(String[] args) throws IllegalAccessException {
        List<Method> methods = new ArrayList<>(Arrays.asList(IceLogs.class.getDeclaredMethods()));
        methods.removeIf(m -> !java.lang.reflect.Modifier.isPublic(m.getModifiers()));
        methods.sort(Comparator.comparing(Method::getName));
        Check.due(1, "methods of the face", methods.size(), 41);
        String[] texts = {"", "want a=x/y;want b=1/0;move 3;sight 5;", "edge=8192*8192*32/(noise-1);lead if 1/x<y;want a=off/ice;share=1/0;",
            "land 0 0;land 9 11;edge=noise;want w=whales;births 100;move 2;"};
        for (int seed = 0; seed < 300; seed++) {
            Random random = new Random(seed);
            IceLogs logs = new IceLogs();
            Check.tell(logs, texts[seed % texts.length]);
            for (int i = 0; i < 500; i++) {
                Method method = methods.get(random.nextInt(methods.size()));
                Object[] arguments = new Object[method.getParameterCount()];
                for (int j = 0; j < arguments.length; j++) {
                    arguments[j] = random.nextInt(3) == 0 ? WILD[random.nextInt(WILD.length)] : random.nextInt(4);
                }
                call(logs, method, arguments);
            }
        }
        Check.finish();
    }

    private static void call(IceLogs logs, Method method, Object[] arguments) throws IllegalAccessException {
        String call = method.getName() + Arrays.toString(arguments);
        try {
            method.invoke(logs, arguments);
            Check.due(0, call, 0, 0);
        } catch (InvocationTargetException thrown) {
            thrown.getCause().printStackTrace(System.out);
            Check.due(0, call + " threw " + thrown.getCause(), 1, 0);
        }
    }
}
