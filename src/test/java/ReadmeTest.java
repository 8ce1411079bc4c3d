import java.io.IOException;
import java.lang.reflect.Method;
import java.lang.reflect.Modifier;
import java.nio.charset.StandardCharsets;
import java.nio.file.Files;
import java.nio.file.Path;
import java.util.ArrayList;
import java.util.HashMap;
import java.util.HashSet;
import java.util.List;
import java.util.Map;
import java.util.Set;
import java.util.regex.Matcher;
import java.util.regex.Pattern;
import java.util.stream.Stream;

/** What README.md says of answers is as the class answers, and it leaves out no call and no test. */
public final class ReadmeTest {
    private static final String NEW_OBJECT = "WordWheel x = new WordWheel();";
    private static final Pattern CALL = Pattern.compile("x\\.(\\w+)\\(([-0-9, ]*)\\); +// (-?\\d+)(: .+)?");
    private static final Pattern CONSTANT = Pattern.compile("\\| (-\\d+) \\| `([A-Z]+)` \\|.*");

    private static final Map<String, Method> METHODS = new HashMap<>();
    private static final Set<String> SHOWN = new HashSet<>();

    private ReadmeTest() {
    }

    public static void main(String[] args) throws IOException, ReflectiveOperationException {
        Path root = Path.of(args.length > 0 ? args[0] : ".");
        List<String> lines = Files.readAllLines(root.resolve("README.md"), StandardCharsets.UTF_8);
        noteMethods();
        answersAreAsShown(lines);
        constantsAreAsShown(lines);
        Due.due("README.md shows every call; it shows " + SHOWN, SHOWN.equals(METHODS.keySet()));
        namesEveryTest(root, String.join("\n", lines));
        Due.end();
    }

    private static void noteMethods() {
        for (Method method : WordWheel.class.getDeclaredMethods()) {
            if (Modifier.isPublic(method.getModifiers())) {
                METHODS.put(method.getName(), method);
            }
        }
    }

    private static void answersAreAsShown(List<String> lines) throws ReflectiveOperationException {
        boolean inJava = false;
        WordWheel x = null;
        for (String line : lines) {
            if (line.startsWith("```")) {
                inJava = line.equals("```java");
                x = null;
            } else if (inJava && line.equals(NEW_OBJECT)) {
                x = new WordWheel();
            } else if (inJava) {
                answerIsAsShown(x, line);
            }
        }
    }

    private static void answerIsAsShown(WordWheel x, String line) throws ReflectiveOperationException {
        Matcher call = CALL.matcher(line);
        if (x == null || !call.matches() || !METHODS.containsKey(call.group(1))) {
            Due.due("README.md has a call of an object, and its answer: " + line, false);
            return;
        }
        SHOWN.add(call.group(1));
        Object got = METHODS.get(call.group(1)).invoke(x, numbers(call.group(2)));
        Due.due("README.md, " + line, ((Number) got).longValue(), Long.parseLong(call.group(3)));
    }

    private static Object[] numbers(String told) {
        List<Object> numbers = new ArrayList<>();
        for (String number : told.split(",")) {
            if (!number.isBlank()) {
                numbers.add(Integer.parseInt(number.trim()));
            }
        }
        return numbers.toArray();
    }

    private static void constantsAreAsShown(List<String> lines) throws ReflectiveOperationException {
        int shown = 0;
        for (String line : lines) {
            Matcher row = CONSTANT.matcher(line);
            if (row.matches()) {
                shown++;
                Due.due("README.md, " + row.group(2), WordWheel.class.getField(row.group(2)).getInt(null),
                    Long.parseLong(row.group(1)));
            }
        }
        Due.due("constants in README.md", shown, 4);
    }

    private static void namesEveryTest(Path root, String text) throws IOException {
        Due.due("README.md tells of .ci/run", text.contains("\n.ci/run\n"));
        try (Stream<Path> files = Files.list(root.resolve("src/test/java"))) {
            for (Path file : files.toList()) {
                String name = file.getFileName().toString().replace(".java", "");
                if (name.endsWith("Test")) {
                    Due.due("README.md tells of " + name, text.contains("`" + name + "`"));
                }
            }
        }
    }
}
