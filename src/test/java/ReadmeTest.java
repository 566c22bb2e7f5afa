import java.io.IOException;
import java.lang.reflect.InvocationTargetException;
import java.lang.reflect.Method;
import java.lang.reflect.Modifier;
import java.nio.file.DirectoryStream;
import java.nio.file.Files;
import java.nio.file.Path;
import java.util.Map;
import java.util.Set;
import java.util.TreeMap;
import java.util.TreeSet;
import java.util.regex.Matcher;
import java.util.regex.Pattern;

/** README.md holds: each line of its examples answers what stands behind it, and no call and no test is left out. */
public final class ReadmeTest {
    private static final Checks CHECKS = new Checks("ReadmeTest");
    private static final Pattern BLOCK = Pattern.compile("```java\n(.*?)```", Pattern.DOTALL);
    private static final Pattern LINE = Pattern.compile("(?:int (\\w+) = )?x\\.(\\w+)\\((.*?)\\);\\s+// ([-\\w]+).*");
    private static final String MAKES = "OneTime x = new OneTime();";

    private final OneTime x = new OneTime();
    private final Map<String, Integer> names = new TreeMap<>();
    private final Set<String> called = new TreeSet<>();

    public static void main(String[] args) throws IOException, ReflectiveOperationException {
        String page = Files.readString(Path.of("README.md"));
        new ReadmeTest().examples(page);
        tests(page);
        CHECKS.finish();
    }

    private void examples(String page) throws ReflectiveOperationException {
        CHECKS.due("objects made", page.split(Pattern.quote(MAKES), -1).length - 1, 1);
        Matcher blocks = BLOCK.matcher(page);
        while (blocks.find()) {
            for (String line : blocks.group(1).split("\n")) {
                if (!line.equals(MAKES)) {
                    example(line);
                }
            }
        }
        for (Method method : OneTime.class.getDeclaredMethods()) {
            boolean open = Modifier.isPublic(method.getModifiers());
            CHECKS.due("has an example: " + method.getName(), !open || called.contains(method.getName()), true);
        }
    }

    private void example(String line) throws ReflectiveOperationException {
        Matcher parts = LINE.matcher(line);
        CHECKS.due("a call with its answer: " + line, parts.matches(), true);
        if (parts.matches()) {
            String answer = answer(parts.group(2), parts.group(3).isEmpty() ? new String[0] : parts.group(3).split(", "));
            CHECKS.due(line + " answered " + answer, answer.equals(parts.group(4)), true);
            if (parts.group(1) != null) {
                names.put(parts.group(1), Integer.parseInt(answer));
            }
        }
    }

    private String answer(String name, String[] texts) throws ReflectiveOperationException {
        for (Method method : OneTime.class.getDeclaredMethods()) {
            if (method.getName().equals(name) && method.getParameterCount() == texts.length) {
                called.add(name);
                Object[] arguments = new Object[texts.length];
                for (int i = 0; i < texts.length; i++) {
                    boolean truth = method.getParameterTypes()[i] == boolean.class;
                    arguments[i] = truth ? (Object) Boolean.valueOf(texts[i]) : (Object) number(texts[i]);
                }
                return invoke(method, arguments);
            }
        }
        return "no such call";
    }

    private int number(String text) {
        return names.containsKey(text) ? names.get(text) : Integer.decode(text);
    }

    private String invoke(Method method, Object[] arguments) throws ReflectiveOperationException {
        try {
            return String.valueOf(method.invoke(x, arguments));
        } catch (InvocationTargetException thrown) {
            return thrown.getCause().getClass().getSimpleName();
        }
    }

    private static void tests(String page) throws IOException {
        CHECKS.due("says how the tests are run", page.contains("\n    .ci/run\n"), true);
        int tests = 0;
        try (DirectoryStream<Path> files = Files.newDirectoryStream(Path.of("src/test/java"), "*Test.java")) {
            for (Path file : files) {
                String name = file.getFileName().toString().replace(".java", "");
                CHECKS.due("tells of " + name, page.contains("\n| `" + name + "` | "), true);
                tests++;
            }
        }
        CHECKS.due("tests that it tells of", page.split("\n\\| `\\w+Test` \\| ", -1).length - 1, tests);
    }
}
