import java.io.IOException;
import java.lang.reflect.Method;
import java.lang.reflect.Modifier;
import java.nio.charset.StandardCharsets;
import java.nio.file.Files;
import java.nio.file.Path;
import java.util.HashMap;
import java.util.HashSet;
import java.util.List;
import java.util.Map;
import java.util.Set;
import java.util.regex.Matcher;
import java.util.regex.Pattern;
import java.util.stream.Collectors;
import java.util.stream.Stream;

/** What README.md tells of the class: its example answers so, and its table is that of the face. */
public final class ReadmeTest {
    private static final Path FILE = Path.of("README.md");
    private static final Pattern EXAMPLE = Pattern.compile("(?s)```java\n(.*?)```");
    private static final Pattern CALL = Pattern.compile(
        "(?:int (\\w+) = )?keeper\\.(\\w+)\\((.*)\\);\\s+// (throws \\w+|true|false|-?\\d+)(?:: .*|)");
    private static final Pattern ROW = Pattern.compile("(?m)^\\| `(\\w+)\\((.*?)\\)` \\|.*\\|.*\\| (.*?) ?\\|$");

    private final Keeper x = new Keeper();
    private final Map<String, Integer> variables = new HashMap<>(Map.of("Tollkeeper.NONE", Tollkeeper.NONE));

    public static void main(String[] args) throws IOException {
        String readme = Files.readString(FILE, StandardCharsets.UTF_8);
        exampleAnswersSo(readme);
        tableIsThatOfTheFace(readme);
        everyTestIsNamed(readme);
        Check.end();
    }

    // ---- the example

    private static void exampleAnswersSo(String readme) {
        Matcher examples = EXAMPLE.matcher(readme);
        int found = 0;
        while (examples.find()) {
            found++;
            ReadmeTest example = new ReadmeTest();
            examples.group(1).lines().filter(line -> line.contains("keeper.")).forEach(example::run);
        }
        Check.due("examples", found, 1);
    }

    private void run(String line) {
        Matcher call = CALL.matcher(line);
        Check.due("a call with its answer: " + line, call.matches(), true);
        if (!call.matches()) {
            return;
        }
        String name = call.group(2);
        List<String> values = Stream.of(call.group(3).split(", ")).filter(text -> !text.isEmpty()).toList();
        boolean areKnown = values.stream().allMatch(this::isKnown);
        Check.due("values that are known: " + line, areKnown, true);
        if (!areKnown) {
            return;
        }
        int[] arguments = values.stream().mapToInt(this::valueOf).toArray();
        Object got = Check.outcome(() -> x.call(name, arguments));
        Check.due(line, written(got), call.group(4));
        if (call.group(1) != null && got instanceof Integer number) {
            variables.put(call.group(1), number);
        }
    }

    private boolean isKnown(String text) {
        return variables.containsKey(text) || text.matches("-?\\d+");
    }

    private int valueOf(String text) {
        return variables.containsKey(text) ? variables.get(text) : Integer.parseInt(text);
    }

    /** Outcomes that are Strings are the names of exceptions. */
    private static String written(Object outcome) {
        return outcome instanceof String name ? "throws " + name.replaceFirst(".*\\.", "") : outcome.toString();
    }

    // ---- the table

    private static void tableIsThatOfTheFace(String readme) {
        Map<String, String> rows = new HashMap<>();
        Matcher row = ROW.matcher(readme);
        while (row.find()) {
            int parameters = row.group(2).isEmpty() ? 0 : row.group(2).split(", ").length;
            rows.put(row.group(1) + " with " + parameters, row.group(3));
        }
        Set<String> face = new HashSet<>();
        for (Method method : Tollkeeper.class.getDeclaredMethods()) {
            if (Modifier.isPublic(method.getModifiers())) {
                String name = method.getName() + " with " + method.getParameterCount();
                face.add(name);
                Check.due("README.md: exceptions of " + name, rows.getOrDefault(name, "no row"), exceptionsOf(method));
            }
        }
        Check.due("README.md: rows", rows.keySet(), face);
    }

    private static String exceptionsOf(Method method) {
        return Stream.of(method.getExceptionTypes()).map(Class::getSimpleName).collect(Collectors.joining(", "));
    }

    // ---- the tests

    private static void everyTestIsNamed(String readme) throws IOException {
        List<String> tests;
        try (Stream<Path> files = Files.list(Path.of("src/test/java"))) {
            tests = files.map(file -> file.getFileName().toString().replace(".java", "")).sorted().toList();
        }
        for (String test : tests) {
            Check.due("README.md names " + test, readme.contains("`" + test + "`"), true);
        }
        Check.due("README.md names .ci/run", readme.contains("`.ci/run`"), true);
    }
}
