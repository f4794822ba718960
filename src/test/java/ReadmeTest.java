import java.io.IOException;
import java.lang.reflect.InvocationTargetException;
import java.lang.reflect.Method;
import java.lang.reflect.Modifier;
import java.nio.file.Files;
import java.nio.file.Path;
import java.util.HashMap;
import java.util.List;
import java.util.Map;
import java.util.regex.Matcher;
import java.util.regex.Pattern;

/** README.md: its examples are run as they stand there, each call of the face and each test is named. */
public final class ReadmeTest {
    private static final Pattern MADE = Pattern.compile("TripleSieve (\\w+) = new TripleSieve\\(\\);");
    private static final Pattern CALL = Pattern.compile("(\\w+)\\.(\\w+)\\((.*)\\); +// (-?\\w+)(:.*)?");
    private static final int LEAST_CALLS = 15;
    private static final Map<String, TripleSieve> OBJECTS = new HashMap<>();
    private static int calls = 0;
    private static int wrong = 0;

    public static void main(String[] args) throws IOException, ReflectiveOperationException {
        List<String> lines = Files.readAllLines(Path.of("README.md"));
        boolean inside = false;
        for (String line : lines) {
            if (line.startsWith("```")) {
                inside = line.equals("```java");
            } else if (inside) {
                run(line);
            }
        }
        check(calls >= LEAST_CALLS, "only " + calls + " calls stand in the examples");
        String all = String.join("\n", lines);
        for (Method m : TripleSieve.class.getDeclaredMethods()) {
            check(!Modifier.isPublic(m.getModifiers()) || all.contains("`" + m.getName() + "`"),
                m.getName() + " is not named");
        }
        check(all.contains(".ci/run") && all.contains("BoundsOf*Test.java"), "how the tests run is not told");
        for (String test : Path.of("src/test/java").toFile().list()) {
            boolean due = test.endsWith("Test.java") && !test.startsWith("BoundsOf");
            check(!due || all.contains(test), test + " is not named");
        }
        System.out.println(wrong == 0 ? calls + " calls of README.md are as it says" : wrong + " things are not as due");
        if (wrong != 0) {
            System.exit(1);
        }
    }

    private static void run(String line) throws ReflectiveOperationException {
        Matcher made = MADE.matcher(line);
        if (made.matches()) {
            OBJECTS.put(made.group(1), new TripleSieve());
            return;
        }
        Matcher call = CALL.matcher(line);
        if (!call.matches() || !OBJECTS.containsKey(call.group(1))) {
            check(false, "not read: " + line);
            return;
        }
        calls++;
        String got = answer(OBJECTS.get(call.group(1)), call.group(2), call.group(3));
        check(got.equals(call.group(4)), line + " answered " + got);
    }

    private static String answer(TripleSieve x, String name, String written) throws ReflectiveOperationException {
        String[] words = written.isEmpty() ? new String[0] : written.split(", *");
        for (Method m : TripleSieve.class.getDeclaredMethods()) {
            if (m.getName().equals(name) && m.getParameterCount() == words.length) {
                Object[] values = new Object[words.length];
                for (int i = 0; i < words.length; i++) {
                    values[i] = value(m.getParameterTypes()[i], words[i]);
                }
                try {
                    return String.valueOf(m.invoke(x, values));
                } catch (InvocationTargetException e) {
                    return "throws." + e.getCause().getClass().getSimpleName();
                }
            }
        }
        return "no such call";
    }

    private static Object value(Class<?> type, String word) {
        if (type == boolean.class) {
            return Boolean.valueOf(word);
        }
        long number = Long.decode(word.replace("L", ""));
        return type == long.class ? (Object) number : (Object) (int) number;
    }

    private static void check(boolean good, String what) {
        if (!good) {
            wrong++;
            System.out.println("README.md: " + what);
        }
    }
}
