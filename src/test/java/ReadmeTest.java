import java.io.File;
import java.io.IOException;
import java.lang.reflect.Field;
import java.lang.reflect.Method;
import java.lang.reflect.Modifier;
import java.nio.file.Files;
import java.nio.file.Path;
import java.util.ArrayList;
import java.util.List;
import java.util.regex.Matcher;
import java.util.regex.Pattern;

/** What README.md says of answers is so, and it names every call, constant and test. */
public final class ReadmeTest {
    private static final Path README = Path.of("README.md");
    private static final String NEW = "VillageBall ball = new VillageBall();";
    private static final Pattern TYPED = Pattern.compile("for \\(char letter : \"([^\"]*)\"\\.toCharArray\\(\\)\\) ball\\.type\\(letter\\);");
    private static final Pattern CALL = Pattern.compile("ball\\.(\\w+)\\(([-\\d, ]*)\\);\\s+// ([A-Z]+|-?\\d+)(?::? .*)?");

    private static VillageBall ball = new VillageBall();
    private static int made;
    private static int wrong;

    public static void main(String[] args) throws IOException, ReflectiveOperationException {
        List<String> lines = Files.readAllLines(README);
        boolean isJava = false;
        for (String line : lines) {
            if (line.startsWith("```")) {
                isJava = line.equals("```java");
            } else if (isJava) {
                example(line.trim());
            }
        }
        names(String.join("\n", lines));
        System.out.println("ReadmeTest: " + made + " answers, " + wrong + " wrong");
        if (wrong != 0 || made == 0) {
            System.exit(1);
        }
    }

    private static void due(boolean holds, String what) {
        if (!holds) {
            wrong++;
            System.out.println("not so: " + what);
        }
    }

    private static void example(String line) throws ReflectiveOperationException {
        Matcher typed = TYPED.matcher(line);
        Matcher call = CALL.matcher(line);
        if (line.equals(NEW)) {
            ball = new VillageBall();
        } else if (typed.matches()) {
            typed.group(1).chars().forEach(ball::type);
        } else if (call.matches()) {
            made++;
            int got = answer(call.group(1), call.group(2));
            due(got == number(call.group(3)), line + " (it answered " + got + ")");
        } else {
            due(false, "a line that can be tried: " + line);
        }
    }

    private static int answer(String name, String args) throws ReflectiveOperationException {
        for (Method m : VillageBall.class.getDeclaredMethods()) {
            if (m.getName().equals(name)) {
                return (int) m.invoke(ball, numbers(m, args));
            }
        }
        throw new NoSuchMethodException(name);
    }

    private static Object[] numbers(Method m, String args) {
        List<Object> numbers = new ArrayList<>();
        for (String arg : args.isBlank() ? new String[0] : args.split(",")) {
            boolean isLong = m.getParameterTypes()[numbers.size()] == long.class;
            numbers.add(isLong ? (Object) Long.valueOf(arg.trim()) : (Object) Integer.valueOf(arg.trim()));
        }
        return numbers.toArray();
    }

    private static int number(String told) throws ReflectiveOperationException {
        return Character.isLetter(told.charAt(0)) ? VillageBall.class.getField(told).getInt(null) : Integer.parseInt(told);
    }

    private static void names(String text) throws ReflectiveOperationException {
        for (Method m : VillageBall.class.getDeclaredMethods()) {
            int params = m.getParameterCount();
            String face = params == 0 ? "\\(\\)" : "\\(\\w+(, \\w+){" + (params - 1) + "}\\)";
            due(!Modifier.isPublic(m.getModifiers()) || Pattern.compile("\\| `" + m.getName() + face + "` \\|").matcher(text).find(),
                m.getName() + " is among the calls");
        }
        for (Field f : VillageBall.class.getFields()) {
            due(text.contains("| `" + f.getName() + "` | " + f.getInt(null) + " |"), f.getName() + " is among the constants");
        }
        File[] tests = new File("src/test/java").listFiles((folder, name) -> name.endsWith("Test.java"));
        due(tests != null && tests.length > 0, "there are tests");
        for (File test : tests == null ? new File[0] : tests) {
            String name = test.getName().replace(".java", "");
            due(text.contains("`" + name + "`"), name + " is named");
        }
    }
}
