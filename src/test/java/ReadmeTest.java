import java.io.IOException;
import java.lang.reflect.InvocationTargetException;
import java.lang.reflect.Method;
import java.nio.file.Files;
import java.nio.file.Path;
import java.util.regex.Matcher;
import java.util.regex.Pattern;

/** The example of README.md: each of its calls, with the answer that it tells behind it. */
public final class ReadmeTest {
    private static final Checks CHECKS = new Checks("ReadmeTest");
    private static final Pattern CALL = Pattern.compile("desk\\.(\\w+)\\(([^)]*)\\);\\s*// (-?\\d+)\\b.*");

    private ReadmeTest() {
    }

    public static void main(String[] args) throws IOException, ReflectiveOperationException {
        String readme = Files.readString(Path.of("README.md"));
        int from = readme.indexOf("```java\n");
        int to = readme.indexOf("```", from + 1);
        if (from < 0 || to < 0) {
            CHECKS.complain("README.md has no example");
            CHECKS.end();
            return;
        }
        FlickerDesk desk = new FlickerDesk();
        for (String line : readme.substring(from, to).split("\n")) {
            if (line.startsWith("desk.")) {
                runLine(desk, line);
            }
        }
        everyTestIsNamed(readme);
        CHECKS.end();
    }

    private static void runLine(FlickerDesk desk, String line) throws ReflectiveOperationException {
        Matcher call = CALL.matcher(line);
        if (!call.matches()) {
            CHECKS.complain("not a call with an answer: " + line);
            return;
        }
        String[] words = call.group(2).isBlank() ? new String[0] : call.group(2).split(",\\s*");
        Object[] given = new Object[words.length];
        for (int i = 0; i < words.length; i++) {
            given[i] = value(words[i]);
        }
        for (Method method : FlickerDesk.class.getDeclaredMethods()) {
            if (method.getName().equals(call.group(1))) {
                CHECKS.due(line, answer(desk, method, given), Integer.parseInt(call.group(3)));
                return;
            }
        }
        CHECKS.complain("no such call: " + line);
    }

    private static Object value(String word) {
        if (word.equals("true") || word.equals("false")) {
            return Boolean.valueOf(word);
        }
        return word.equals("FlickerDesk.NONE") ? FlickerDesk.NONE : (int) (long) Long.decode(word);
    }

    private static int answer(FlickerDesk desk, Method method, Object[] given) throws ReflectiveOperationException {
        try {
            return (Integer) method.invoke(desk, given);
        } catch (InvocationTargetException e) {
            CHECKS.complain(method.getName() + " throws " + e.getCause());
            return Integer.MIN_VALUE;
        }
    }

    private static void everyTestIsNamed(String readme) throws IOException {
        try (var files = Files.list(Path.of("src/test/java"))) {
            for (Path file : files.sorted().toList()) {
                String name = file.getFileName().toString().replace(".java", "");
                if (name.endsWith("Test")) {
                    CHECKS.due("README.md names " + name, readme.contains("`" + name + "`") ? 1 : 0, 1);
                }
            }
        }
    }
}
