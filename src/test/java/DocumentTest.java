import java.io.IOException;
import java.lang.reflect.Field;
import java.lang.reflect.Method;
import java.lang.reflect.Modifier;
import java.nio.file.Files;
import java.nio.file.Path;
import java.util.ArrayList;
import java.util.Arrays;
import java.util.BitSet;
import java.util.List;
import java.util.Set;
import java.util.TreeSet;
import java.util.regex.Matcher;
import java.util.regex.Pattern;
import java.util.stream.Collectors;
import java.util.stream.Stream;

/** The document from its first line: the class has its face, and each of its sentences stands above a test. */
public final class DocumentTest extends Due {
    private static final Pattern QUOTE = Pattern.compile("sentence\\(((?:\\s*\"(?:[^\"\\\\]|\\\\.)*\"\\s*\\+?)+)\\)");
    private static final Pattern TEXT = Pattern.compile("\"((?:[^\"\\\\]|\\\\.)*)\"");
    private static final Pattern METHOD = Pattern.compile("public (int|long) (\\w+)\\(([^)]*)\\);");
    private static final Pattern CONSTANT = Pattern.compile("([A-Z]+) = (-\\d+)");

    /** What asks for nothing: headings, the face (tested by itself), what the sections are called, what is free. */
    private static final String[] NO_PROMISE = {
        "(?s)^.*?======== 1 ", "======== \\d", "```text", "```java.*?```", "```", "## [A-Z][A-Za-z ]*?(?= [A-Z`-])",
        "## Promise \\d+: (A new object|\\w+)", "`(int|long) \\w+\\([^)]*\\)`:",
        "Ahead of the calls (`\\w+`,? )+(the interface says: ---- [a-z ]+\\.)?", "; what later calls answer is free\\.",
        "How the state is held inside the object is free.*?promised to be safe\\.",
        ", and nothing about an object after its 512th call\\."};

    public static void main(String[] args) throws IOException, ReflectiveOperationException {
        Path root = Path.of(System.getProperty("project.root", "."));
        String document = Files.readString(root.resolve("../shared/DOC.md")).replaceAll("\\s+", " ");
        face(document);
        constants(document);
        promises(document);
        List<String> quotes = quotes(root.resolve("src/test/java"));
        due("quotes were found", quotes.size() > 90 ? 1 : 0, 1);
        everySentence(document, quotes);
        end("DocumentTest");
    }

    private static void face(String document) {
        Set<String> told = new TreeSet<>();
        Matcher each = METHOD.matcher(document);
        while (each.find()) {
            String parameters = each.group(3).replaceAll(" \\w+(?=,|$)", "");
            told.add(each.group(1) + " " + each.group(2) + "(" + parameters + ")");
        }
        Set<String> stands = new TreeSet<>();
        for (Method m : PointsThrow.class.getDeclaredMethods()) {
            if (Modifier.isPublic(m.getModifiers())) {
                String parameters = Arrays.stream(m.getParameterTypes()).map(Class::getName)
                    .collect(Collectors.joining(", "));
                stands.add(m.getReturnType().getName() + " " + m.getName() + "(" + parameters + ")");
            }
        }
        due("calls of the document", told.size(), 29);
        due("the face " + stands + " is " + told, stands.equals(told) ? 1 : 0, 1);
    }

    private static void constants(String document) throws ReflectiveOperationException {
        Matcher each = CONSTANT.matcher(document);
        int found = 0;
        while (each.find()) {
            found++;
            Field constant = PointsThrow.class.getField(each.group(1));
            due(each.group(1), constant.getInt(null), Long.parseLong(each.group(2)));
        }
        due("constants of the document", found, 5);
    }

    private static void promises(String document) {
        Matcher each = Pattern.compile("## Promise (\\d+):").matcher(document);
        int last = 0;
        while (each.find()) {
            last++;
            due("promise", Long.parseLong(each.group(1)), last);
        }
        due("promises", last, 30);
    }

    private static List<String> quotes(Path tests) throws IOException {
        List<Path> files;
        try (Stream<Path> all = Files.list(tests)) {
            files = all.filter(file -> file.toString().endsWith("EdgeTest.java")).collect(Collectors.toList());
        }
        List<String> quotes = new ArrayList<>();
        for (Path file : files) {
            Matcher quote = QUOTE.matcher(Files.readString(file));
            while (quote.find()) {
                StringBuilder words = new StringBuilder();
                Matcher part = TEXT.matcher(quote.group(1));
                while (part.find()) {
                    words.append(part.group(1).replace("\\\"", "\""));
                }
                quotes.add(words.toString());
            }
        }
        return quotes;
    }

    /** What is left when quotes and what asks for nothing are taken out are single signs between them. */
    private static void everySentence(String document, List<String> quotes) {
        BitSet tested = new BitSet();
        for (String quote : quotes) {
            for (int at = document.indexOf(quote); at >= 0; at = document.indexOf(quote, at + 1)) {
                tested.set(at, at + quote.length());
            }
        }
        for (String free : NO_PROMISE) {
            Matcher each = Pattern.compile(free).matcher(document);
            while (each.find()) {
                tested.set(each.start(), each.end());
            }
        }
        int from = tested.nextClearBit(0);
        while (from < document.length()) {
            int next = tested.nextSetBit(from);
            int to = next < 0 ? document.length() : next;
            String left = document.substring(from, to);
            due("no test has the words \"" + left + "\"", left.matches("[ ,.;:]*") ? 1 : 0, 1);
            from = tested.nextClearBit(to);
        }
    }
}
