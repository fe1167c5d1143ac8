import java.lang.reflect.InvocationTargetException;
import java.lang.reflect.Method;
import java.lang.reflect.Modifier;
import java.util.ArrayList;
import java.util.List;

/** Calls everything with edges and far-out numbers, in full and empty states: nothing may throw. */
public final class EdgesTest {
    private static final int[] NUMBERS = {Integer.MIN_VALUE, Integer.MIN_VALUE + 1, -1000, -41, -2, -1, 0, 1, 2, 3, 4,
        5, 6, 7, 9, 10, 11, 12, 13, 30, 31, 40, 41, 97, 200, 512, 998, 999, 1000, 9999, 10000, 65536,
        Integer.MAX_VALUE - 1, Integer.MAX_VALUE};

    private static long seed = 4711;

    public static void main(String[] args) throws IllegalAccessException {
        List<Method> methods = new ArrayList<>();
        for (Method method : RingRunners.class.getDeclaredMethods()) {
            if (Modifier.isPublic(method.getModifiers())) {
                methods.add(method);
            }
        }
        methods.sort((a, b) -> a.getName().compareTo(b.getName()));
        int wrong = 0;
        for (int run = 0; run < 60; run++) {
            RingRunners x = new RingRunners();
            for (int n = 0; n < run % 7; n++) {
                x.run(below(41), below(12));
            }
            for (int call = 0; call < 512; call++) {
                wrong += goesWell(x, methods.get(below(methods.size()))) ? 0 : 1;
            }
        }
        System.out.println(wrong == 0 ? "no call threw" : wrong + " calls threw");
        if (wrong != 0) {
            System.exit(1);
        }
    }

    private static boolean goesWell(RingRunners x, Method method) throws IllegalAccessException {
        Class<?>[] types = method.getParameterTypes();
        Object[] arguments = new Object[types.length];
        for (int n = 0; n < types.length; n++) {
            if (types[n] == boolean.class) {
                arguments[n] = below(2) == 0;
            } else {
                arguments[n] = below(2) == 0 ? below(6) : NUMBERS[below(NUMBERS.length)];
            }
        }
        try {
            method.invoke(x, arguments);
            return true;
        } catch (InvocationTargetException e) {
            System.out.println(method.getName() + java.util.Arrays.toString(arguments) + " threw " + e.getCause());
            return false;
        }
    }

    private static int below(int bound) {
        seed = seed * 6364136223846793005L + 1442695040888963407L;
        return (int) Long.remainderUnsigned(seed >>> 33, bound);
    }
}
