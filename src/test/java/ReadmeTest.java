import java.io.IOException;
import java.lang.reflect.InvocationTargetException;
import java.lang.reflect.Method;
import java.lang.reflect.Modifier;
import java.nio.file.Files;
import java.nio.file.Path;
import java.util.regex.Matcher;
import java.util.regex.Pattern;

/** README.md: the example answers what it says, every call of the face is told, and so is every test. */
public final class ReadmeTest {
    private static final Check CHECK = new Check("ReadmeTest");
    private static final Pattern CALL =
            Pattern.compile("desk\\.(\\w+)\\(([^)]*)\\);\\s*(?://\\s*(?:(-?\\d+)\\b|throws (\\w+))?.*)?");

    public static void main(String[] args) throws IOException {
        String text = Files.readString(Path.of("README.md"));
        CHECK.sentence("README.md says how to use the class: its example", () -> example(text));
        CHECK.sentence("README.md says how to use the class: every call", () -> everyCall(text));
        CHECK.sentence("README.md says how to run its tests", () -> everyTest(text));
        CHECK.end();
    }

    private static void example(String text) {
        int from = text.indexOf("```java");
        String code = text.substring(from, text.indexOf("```", from + 3));
        DumpDesk desk = new DumpDesk();
        int calls = 0;
        int told = 0;
        Matcher matcher = CALL.matcher(code);
        while (matcher.find()) {
            calls++;
            String answer = answer(desk, matcher.group(1), matcher.group(2).split(",\\s*"));
            String due = matcher.group(3) != null ? matcher.group(3) : matcher.group(4);
            if (due != null) {
                told++;
                CHECK.same(matcher.group(1) + "(" + matcher.group(2) + ")", answer, due);
            }
        }
        CHECK.due("calls of the example", calls, code.split("desk\\.").length - 1);
        CHECK.same("some answers are told", told > 3, true);
    }

    private static String answer(DumpDesk desk, String name, String[] values) {
        try {
            for (Method method : DumpDesk.class.getMethods()) {
                if (method.getName().equals(name)) {
                    return String.valueOf(method.invoke(desk, arguments(method, values)));
                }
            }
            return "no such call";
        } catch (InvocationTargetException e) {
            return e.getCause().getClass().getSimpleName();
        } catch (IllegalAccessException e) {
            throw new IllegalStateException(e);
        }
    }

    private static Object[] arguments(Method method, String[] values) {
        Object[] arguments = new Object[method.getParameterCount()];
        for (int k = 0; k < arguments.length; k++) {
            boolean isInt = method.getParameterTypes()[k] == int.class;
            arguments[k] = isInt ? (Object) Integer.valueOf(values[k]) : Boolean.valueOf(values[k]);
        }
        return arguments;
    }

    private static void everyCall(String text) {
        for (Method method : DumpDesk.class.getDeclaredMethods()) {
            if (Modifier.isPublic(method.getModifiers())) {
                CHECK.same(method.getName() + " is told", text.contains("| `" + method.getName() + "("), true);
            }
        }
    }

    private static void everyTest(String text) {
        CHECK.same(".ci/run is told", text.contains("    .ci/run\n"), true);
        for (String file : Path.of("src/test/java").toFile().list()) {
            if (file.endsWith("Test.java")) {
                String name = file.replace(".java", "");
                CHECK.same(name + " is told", text.contains("| " + name + " |"), true);
            }
        }
    }
}
