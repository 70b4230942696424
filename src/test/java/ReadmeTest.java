import java.io.IOException;
import java.lang.reflect.InvocationTargetException;
import java.lang.reflect.Method;
import java.lang.reflect.Modifier;
import java.nio.file.DirectoryStream;
import java.nio.file.Files;
import java.nio.file.Path;
import java.util.Arrays;
import java.util.HashSet;
import java.util.List;
import java.util.Set;
import java.util.regex.Matcher;
import java.util.regex.Pattern;

/** What README.md shows of the class's use is so: each line of its examples is called. */
public final class ReadmeTest {
    private static final Path README = Path.of("README.md");
    private static final Path TESTS = Path.of("src/test/java");
    private static final String NEW_OBJECT = "BitBlocks x = new BitBlocks();";
    private static final Pattern CALL =
            Pattern.compile("x\\.(\\w+)\\(((?:-?\\d+(?:, -?\\d+)*)?)\\); +// *(.*)");
    private static final Pattern ANSWER = Pattern.compile("(-> \\S+|throws \\w+)\\b.*");

    private static final Set<String> called = new HashSet<>();
    private static BitBlocks x = null;

    public static void main(String[] args) throws IOException, ReflectiveOperationException {
        List<String> lines = Files.readAllLines(README);
        runExamples(lines);
        everyCallIsShown(String.join("\n", lines));
        everyTestIsNamed(String.join("\n", lines));
        Check.end();
    }

    private static void runExamples(List<String> lines) throws ReflectiveOperationException {
        boolean inExample = false;
        for (String line : lines) {
            if (line.startsWith("```")) {
                inExample = line.equals("```java");
                x = null;
            } else if (inExample && !line.isEmpty()) {
                runLine(line);
            }
        }
    }

    private static void runLine(String line) throws ReflectiveOperationException {
        if (line.equals(NEW_OBJECT)) {
            x = new BitBlocks();
            return;
        }
        Matcher call = CALL.matcher(line);
        Check.due("README's line is a call: " + line, call.matches() && x != null, true);
        if (call.matches() && x != null) {
            Check.due("README: " + line, answer(call.group(1), numbers(call.group(2))),
                    toldAnswer(call.group(3)));
        }
    }

    /** What the comment behind a call says; nothing for a call that answers nothing. */
    private static String toldAnswer(String comment) {
        Matcher told = ANSWER.matcher(comment);
        return told.matches() ? told.group(1) : "";
    }

    private static Object[] numbers(String text) {
        String[] parts = text.isEmpty() ? new String[0] : text.split(", ");
        Object[] numbers = new Object[parts.length];
        for (int i = 0; i < parts.length; i++) {
            numbers[i] = Integer.valueOf(parts[i]);
        }
        return numbers;
    }

    private static String answer(String name, Object[] arguments)
            throws ReflectiveOperationException {
        Class<?>[] types = new Class<?>[arguments.length];
        Arrays.fill(types, int.class);
        Method method = BitBlocks.class.getMethod(name, types);
        called.add(name);
        try {
            Object answer = method.invoke(x, arguments);
            return method.getReturnType() == void.class ? "" : "-> " + answer;
        } catch (InvocationTargetException e) {
            return "throws " + e.getCause().getClass().getSimpleName();
        }
    }

    private static void everyCallIsShown(String text) {
        for (Method method : BitBlocks.class.getDeclaredMethods()) {
            String name = method.getName();
            if (Modifier.isPublic(method.getModifiers())) {
                Check.due("README has a row for " + name, text.contains("| `" + name + "("), true);
                Check.due("README has an example of " + name, called.contains(name), true);
            }
        }
    }

    private static void everyTestIsNamed(String text) throws IOException {
        try (DirectoryStream<Path> files = Files.newDirectoryStream(TESTS, "*.java")) {
            for (Path file : files) {
                String name = file.getFileName().toString().replace(".java", "");
                Check.due("README names " + name, text.contains("`" + name + "`"), true);
            }
        }
    }
}
