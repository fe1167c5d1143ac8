import java.io.IOException;
import java.lang.reflect.InvocationTargetException;
import java.lang.reflect.Method;
import java.nio.file.Files;
import java.nio.file.Path;
import java.util.regex.Matcher;
import java.util.regex.Pattern;

/** Plays the examples of README.md: each of their calls answers what stands behind it. */
public final class ReadmeTest {
    private static final String NEW = "RingRunners x = new RingRunners();";
    private static final Pattern CALL = Pattern.compile("x\\.(\\w+)\\((.*)\\);\\s+// (-?\\d+|true|false)\\b.*");

    private static RingRunners x = null;
    private static int calls = 0;
    private static int wrong = 0;

    public static void main(String[] args) throws IOException, IllegalAccessException, InvocationTargetException {
        boolean within = false;
        for (String line : Files.readAllLines(Path.of("README.md"))) {
            if (line.startsWith("```")) {
                within = line.equals("```java");
                x = null;
            } else if (within) {
                play(line);
            }
        }
        if (calls == 0) {
            broken("no example");
        }
        System.out.println(wrong == 0 ? calls + " examples hold" : wrong + " examples are wrong");
        if (wrong != 0) {
            System.exit(1);
        }
    }

    private static void play(String line) throws IllegalAccessException, InvocationTargetException {
        if (line.equals(NEW)) {
            x = new RingRunners();
            return;
        }
        Matcher call = CALL.matcher(line);
        if (x == null || !call.matches()) {
            broken("not an example: " + line);
            return;
        }
        calls++;
        String[] words = call.group(2).isEmpty() ? new String[0] : call.group(2).split(", ");
        Method method = methodOf(call.group(1), words.length);
        if (method == null) {
            broken("no such call: " + line);
            return;
        }
        Object answer = method.invoke(x, valuesOf(method, words));
        if (!String.valueOf(answer).equals(call.group(3))) {
            broken("answered " + answer + ": " + line);
        }
    }

    private static Method methodOf(String name, int parameters) {
        for (Method method : RingRunners.class.getMethods()) {
            if (method.getName().equals(name) && method.getParameterCount() == parameters) {
                return method;
            }
        }
        return null;
    }

    private static Object[] valuesOf(Method method, String[] words) {
        Object[] values = new Object[words.length];
        for (int n = 0; n < words.length; n++) {
            boolean isBoolean = method.getParameterTypes()[n] == boolean.class;
            values[n] = isBoolean ? (Object) words[n].equals("true") : (Object) Integer.decode(words[n]);
        }
        return values;
    }

    private static void broken(String what) {
        wrong++;
        System.out.println(what);
    }
}
