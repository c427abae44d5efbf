import java.io.IOException;
import java.lang.reflect.Method;
import java.lang.reflect.Modifier;
import java.nio.charset.StandardCharsets;
import java.nio.file.Files;
import java.nio.file.Path;
import java.util.List;
import java.util.Set;
import java.util.TreeSet;
import java.util.regex.Matcher;
import java.util.regex.Pattern;
import java.util.stream.Collectors;
import java.util.stream.Stream;

/** Makes the calls that README.md shows, and compares what they answer with what stands behind them. */
public final class ReadmeTest extends Bench {
    private static final Path README = Path.of("README.md");
    private static final Path TESTS = Path.of("src/test/java");
    private static final int CALLS_OF_AN_OBJECT = 512;
    private static final String NEW = "BuiltTwice bench = new BuiltTwice();";
    private static final Pattern CALL =
        Pattern.compile("bench\\.(\\w+)\\(([^()]*)\\); +// (-?\\d+|[A-Z]+)(: .+)?");
    private static final Pattern CONSTANT = Pattern.compile("\\| `([A-Z]+)` *\\| (-\\d+) \\| .+ \\|");

    private static BuiltTwice bench = null;
    private static int calls = 0;
    private static final Set<String> shown = new TreeSet<>();
    private static final Set<String> answers = new TreeSet<>();

    public static void main(String[] args) throws IOException, ReflectiveOperationException {
        List<String> page = Files.readAllLines(README, StandardCharsets.UTF_8);
        shownCalls(page);
        due("README.md shows every call of the face: " + shown, 1, shown.equals(face()) ? 1 : 0);
        due("README.md shows refusals: " + answers, 1, answers.containsAll(Set.of("BAD", "NOT", "FULL", "RING")) ? 1 : 0);
        constants(page);
        named(String.join("\n", page));
        end();
    }

    private static void shownCalls(List<String> page) throws ReflectiveOperationException {
        boolean inBlock = false;
        for (int n = 0; n < page.size(); n++) {
            String line = page.get(n);
            if (line.startsWith("```")) {
                inBlock = line.equals("```java");
            } else if (inBlock) {
                shownLine(n + 1, line);
            } else {
                due("a call out of a block is not made by this test, line " + (n + 1), -1, line.indexOf("bench."));
            }
        }
    }

    private static void shownLine(int n, String line) throws ReflectiveOperationException {
        if (line.equals(NEW)) {
            bench = new BuiltTwice();
            calls = 0;
            return;
        }
        Matcher m = CALL.matcher(line);
        boolean isCall = bench != null && m.matches();
        due("line " + n + " is a call with its answer: " + line, 1, isCall ? 1 : 0);
        if (isCall) {
            calls++;
            due("line " + n + " is within the calls of an object", 1, calls <= CALLS_OF_AN_OBJECT ? 1 : 0);
            due("line " + n + ": " + line, number(m.group(3)), ask(m.group(1), m.group(2)));
            shown.add(m.group(1));
            answers.add(m.group(3));
        }
    }

    private static long number(String told) throws ReflectiveOperationException {
        boolean isName = Character.isLetter(told.charAt(0));
        return isName ? BuiltTwice.class.getField(told).getInt(null) : Long.parseLong(told);
    }

    private static long ask(String call, String told) throws ReflectiveOperationException {
        Object[] values = Stream.of(told.split(", *")).filter(v -> !v.isEmpty()).map(Integer::decode).toArray();
        Class<?>[] types = Stream.of(values).map(v -> int.class).toArray(Class<?>[]::new);
        return ((Number) BuiltTwice.class.getMethod(call, types).invoke(bench, values)).longValue();
    }

    private static Set<String> face() {
        return Stream.of(BuiltTwice.class.getDeclaredMethods()).filter(m -> Modifier.isPublic(m.getModifiers()))
            .map(Method::getName).collect(Collectors.toCollection(TreeSet::new));
    }

    /** The table of answers has each of the five, in the document's order. */
    private static void constants(List<String> page) throws ReflectiveOperationException {
        StringBuilder order = new StringBuilder();
        for (String line : page) {
            Matcher m = CONSTANT.matcher(line);
            if (m.matches()) {
                due(m.group(1), number(m.group(1)), Long.parseLong(m.group(2)));
                order.append(m.group(1)).append(' ');
            }
        }
        due("the table has " + order, 1, order.toString().equals("BAD NOT FULL BIG RING ") ? 1 : 0);
    }

    private static void named(String page) throws IOException {
        due("README.md says for how many calls an object is used", 1, page.contains("at most 512 calls") ? 1 : 0);
        due("README.md says how the tests are run", 1, page.contains("\n    .ci/run\n") ? 1 : 0);
        try (Stream<Path> files = Files.list(TESTS)) {
            for (Path file : files.sorted().collect(Collectors.toList())) {
                String name = file.getFileName().toString().replace(".java", "");
                if (name.endsWith("Test")) {
                    due("README.md names " + name, 1, page.contains("`" + name + "`") ? 1 : 0);
                }
            }
        }
    }
}
