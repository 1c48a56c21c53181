import java.io.IOException;
import java.lang.reflect.InvocationTargetException;
import java.lang.reflect.Method;
import java.lang.reflect.Modifier;
import java.nio.file.Files;
import java.nio.file.Path;
import java.util.List;
import java.util.regex.Matcher;
import java.util.regex.Pattern;
import java.util.stream.Collectors;
import java.util.stream.Stream;

/** README.md tells the truth: its calls answer as they say, and it names every call and every test. */
public final class ReadmeTest extends Due {
    private static final Pattern BLOCK = Pattern.compile("(?s)```java\\n(.*?)```");
    private static final Pattern CALL = Pattern.compile("x\\.(\\w+)\\(([^)]*)\\); +// (-?\\d+)(:.*)?");

    public static void main(String[] args) throws IOException, ReflectiveOperationException {
        Path root = Path.of(System.getProperty("project.root", "."));
        String page = Files.readString(root.resolve("README.md"));
        Matcher block = BLOCK.matcher(page);
        due("a block of calls", block.find() ? 1 : 0, 1);
        calls(block.group(1).split("\n"));
        namesEveryCall(page);
        namesEveryTest(page, root.resolve("src/test/java"));
        end("ReadmeTest");
    }

    private static void calls(String[] lines) throws ReflectiveOperationException {
        due("first line", lines[0].equals("PointsThrow x = new PointsThrow();") ? 1 : 0, 1);
        PointsThrow x = new PointsThrow();
        for (int i = 1; i < lines.length; i++) {
            Matcher call = CALL.matcher(lines[i]);
            boolean isCall = call.matches();
            due("a call with its answer: " + lines[i], isCall ? 1 : 0, 1);
            if (isCall) {
                due(lines[i], answer(x, call.group(1), call.group(2)), Long.parseLong(call.group(3)));
            }
        }
    }

    private static long answer(PointsThrow x, String name, String told)
            throws IllegalAccessException, InvocationTargetException {
        String[] numbers = told.isEmpty() ? new String[0] : told.split(", ");
        for (Method m : PointsThrow.class.getMethods()) {
            if (m.getName().equals(name) && m.getParameterCount() == numbers.length) {
                Object[] given = new Object[numbers.length];
                for (int i = 0; i < numbers.length; i++) {
                    given[i] = number(numbers[i]);
                }
                return ((Number) m.invoke(x, given)).longValue();
            }
        }
        throw new IllegalStateException("no call " + name);
    }

    private static Object number(String told) {
        if (told.endsWith("L")) {
            return Long.valueOf(told.substring(0, told.length() - 1));
        }
        return Integer.valueOf(told);
    }

    private static void namesEveryCall(String page) {
        for (Method m : PointsThrow.class.getDeclaredMethods()) {
            if (Modifier.isPublic(m.getModifiers())) {
                due("README.md names " + m.getName(), page.contains("`" + m.getName() + "`") ? 1 : 0, 1);
            }
        }
    }

    private static void namesEveryTest(String page, Path tests) throws IOException {
        List<String> files;
        try (Stream<Path> all = Files.list(tests)) {
            files = all.map(file -> file.getFileName().toString()).collect(Collectors.toList());
        }
        for (String file : files) {
            due("README.md names " + file, page.contains("`" + file.replace(".java", "") + "`") ? 1 : 0, 1);
        }
    }
}
