import java.io.IOException;
import java.lang.reflect.Constructor;
import java.lang.reflect.Field;
import java.lang.reflect.Method;
import java.lang.reflect.Modifier;
import java.nio.file.Files;
import java.nio.file.Path;
import java.util.Arrays;
import java.util.TreeSet;
import java.util.regex.Matcher;
import java.util.regex.Pattern;

/** What can be looked up of ../shared/LANGUAGE.md and of the document's face. */
public final class LanguageTest {
    private static int wrong = 0;

    public static void main(String[] args) throws IOException {
        String source = Files.readString(Path.of("src/main/java/RingRunners.java"));
        String bare = withoutTexts(source);
        signs(source);
        forbidden(bare);
        methodLengths(source);
        face(Files.readString(Path.of("../shared/DOC.md")));
        shape();
        System.out.println(wrong == 0 ? "the language's rules hold as far as looked" : wrong + " rules broken");
        if (wrong != 0) {
            System.exit(1);
        }
    }

    private static void broken(String what) {
        wrong++;
        System.out.println(what);
    }

    private static String withoutTexts(String source) {
        return source.replaceAll("(?s)/\\*.*?\\*/", " ").replaceAll("//[^\n]*", " ")
            .replaceAll("\"[^\"\n]*\"", "\"\"").replaceAll("'[^'\n]*'", "' '");
    }

    private static void signs(String source) {
        for (int n = 0; n < source.length(); n++) {
            if (source.charAt(n) > 126 || source.charAt(n) < 32 && source.charAt(n) != '\n') {
                broken("sign " + (int) source.charAt(n) + " at " + n);
            }
        }
    }

    private static void forbidden(String bare) {
        String[] patterns = {"\\bthrows?\\b", "\\btry\\b", "\\bcatch\\b", "\\bsynchronized\\b", "\\bassert\\b",
            "\\bimport\\b", "\\bpackage\\b", "->", "::", "Exact\\(", "\\bequals\\(", "\\bhashCode\\(",
            "\\btoString\\(", "\\bvolatile\\b", "\\bThread\\b", "Random", "\\bSystem\\.(?!arraycopy)",
            "\\bdouble\\b", "\\bfloat\\b", "\\bprotected\\b", "while \\(true\\)", "for \\(;;\\)", "@", "\\bvar\\b",
            "\\b(Integer|Long)\\.[A-Z]", "(private|final) [^=;(]*= new \\w+\\([a-z]", "[(,] ?this\\b(?!\\.)"};
        for (String pattern : patterns) {
            Matcher found = Pattern.compile(pattern).matcher(bare);
            if (found.find()) {
                broken("forbidden: " + bare.substring(found.start(), Math.min(bare.length(), found.start() + 40)));
            }
        }
    }

    private static void methodLengths(String source) {
        String[] lines = source.split("\n");
        int from = -1;
        for (int n = 0; n < lines.length; n++) {
            boolean opens = lines[n].matches("( {4}| {8})\\S.*\\).*\\{") && !lines[n].contains(" class ")
                && !lines[n].trim().matches("(if|for|while|switch|else|\\}).*");
            if (opens) {
                from = n;
            }
            if (from >= 0 && lines[n].matches("( {4}| {8})\\}") && n - from > 60) {
                broken("longer than 60 lines: " + lines[from].trim());
            }
        }
    }

    private static void face(String document) {
        int from = document.indexOf("public final class RingRunners {");
        String block = document.substring(from, document.indexOf("```", from));
        TreeSet<String> due = new TreeSet<>();
        for (String line : block.split("\n")) {
            Matcher method = Pattern.compile("public (\\w+) (\\w+)\\((.*)\\);").matcher(line.trim());
            if (method.matches()) {
                StringBuilder types = new StringBuilder();
                for (String parameter : method.group(3).isEmpty() ? new String[0] : method.group(3).split(", ")) {
                    types.append(parameter.split(" ")[0]).append(' ');
                }
                due.add(method.group(1) + " " + method.group(2) + " " + types);
            }
        }
        TreeSet<String> are = new TreeSet<>();
        for (Method method : RingRunners.class.getDeclaredMethods()) {
            if (!Modifier.isPrivate(method.getModifiers()) && !method.isSynthetic()) {
                StringBuilder types = new StringBuilder();
                for (Class<?> type : method.getParameterTypes()) {
                    types.append(type.getName()).append(' ');
                }
                are.add(method.getReturnType().getName() + " " + method.getName() + " " + types);
                if (!Modifier.isPublic(method.getModifiers())) {
                    broken("neither public nor private: " + method);
                }
            }
        }
        if (due.size() != 64 || !due.equals(are)) {
            broken("the face differs: " + due + " and " + are);
        }
    }

    private static void shape() {
        TreeSet<String> publicNames = new TreeSet<>();
        for (Method method : RingRunners.class.getMethods()) {
            publicNames.add(method.getName());
        }
        Class<?>[] inside = RingRunners.class.getDeclaredClasses();
        if (inside.length > 11) {
            broken("more than twelve classes");
        }
        Constructor<?>[] constructors = RingRunners.class.getDeclaredConstructors();
        if (constructors.length != 1 || constructors[0].getParameterCount() != 0
            || !Modifier.isPublic(constructors[0].getModifiers())) {
            broken("constructors: " + Arrays.toString(constructors));
        }
        shapeOf(RingRunners.class, publicNames);
        for (Class<?> type : inside) {
            if (!Modifier.isStatic(type.getModifiers()) || Modifier.isPublic(type.getModifiers())) {
                broken("not static or public: " + type);
            }
            shapeOf(type, publicNames);
        }
    }

    private static void shapeOf(Class<?> type, TreeSet<String> publicNames) {
        int fields = 0;
        for (Field field : type.getDeclaredFields()) {
            boolean constant = Modifier.isStatic(field.getModifiers());
            fields += constant ? 0 : 1;
            if (constant && !Modifier.isFinal(field.getModifiers())) {
                broken("static and not final: " + field);
            }
            if (type == RingRunners.class && !Modifier.isPrivate(field.getModifiers())
                && !field.getName().equals("NONE")) {
                broken("not private: " + field);
            }
        }
        if (fields > 20) {
            broken("more than twenty fields: " + type);
        }
        for (Method method : type.getDeclaredMethods()) {
            if (!Modifier.isPublic(method.getModifiers()) && publicNames.contains(method.getName())) {
                broken("bears the name of a public one: " + method);
            }
            if (method.getParameterCount() > 7) {
                broken("more than seven parameters: " + method);
            }
        }
    }
}
