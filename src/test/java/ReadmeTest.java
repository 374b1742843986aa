import java.io.IOException;
import java.lang.reflect.Method;
import java.lang.reflect.Modifier;
import java.nio.file.Files;
import java.nio.file.Path;
import java.util.ArrayList;
import java.util.Arrays;
import java.util.HashMap;
import java.util.List;
import java.util.Map;
import java.util.TreeSet;
import java.util.regex.Matcher;
import java.util.regex.Pattern;
import java.util.stream.Collectors;
import java.util.stream.Stream;

/** What README.md says of the class and of its tests holds when it is tried. */
public final class ReadmeTest {
    private static final Path README = Path.of("README.md");
    private static final Path TESTS = Path.of("src/test/java");
    private static final Pattern EXAMPLE = Pattern.compile("```java\n(.*?)```", Pattern.DOTALL);
    private static final Pattern MADE =
        Pattern.compile("CrackedColumn column = new CrackedColumn\\((\\S+), (\\S+), (\\S+)\\); +// .*");
    private static final Pattern CALL =
        Pattern.compile("(?:int (\\w+) = )?column\\.(\\w+)\\((.*?)\\); +// (-?\\w+)(?:: .*)?");
    private static final Pattern TABLE_CALL = Pattern.compile("(?m)^\\| `(\\w+)\\((.*?)\\)` \\|");
    private static final Pattern TEST_NAME = Pattern.compile("`(\\w+Test)`");

    private final Map<String, Integer> names = new HashMap<>();
    private final TreeSet<String> called = new TreeSet<>();
    private CrackedColumn column;

    public static void main(String[] args) throws IOException, ReflectiveOperationException {
        String readme = Files.readString(README);
        new ReadmeTest().theExampleAnswersAsItSays(readme);
        theTableNamesEveryCall(readme);
        everyTestIsNamed(readme);
        Due.end();
    }

    private void theExampleAnswersAsItSays(String readme) throws ReflectiveOperationException {
        Due.says("README: the comment behind each call begins with its answer");
        Matcher block = EXAMPLE.matcher(readme);
        Due.is("an example", block.find() ? 1 : 0, 1);
        for (String line : block.group(1).split("\n")) {
            if (!line.isEmpty()) {
                tryLine(line);
            }
        }
        Due.same("calls of the example", called.toString(), methods().map(Method::getName).sorted().toList().toString());
    }

    private void tryLine(String line) throws ReflectiveOperationException {
        Matcher made = MADE.matcher(line);
        Matcher call = CALL.matcher(line);
        if (made.matches()) {
            column = new CrackedColumn(number(made.group(1)), number(made.group(2)), number(made.group(3)));
        } else if (call.matches()) {
            tryCall(line, call);
        } else {
            Due.same("a line of the example", line, "a call with its answer");
        }
    }

    private void tryCall(String line, Matcher call) throws ReflectiveOperationException {
        long answer = answer(call.group(2), call.group(3));
        Due.is(line, answer, number(call.group(4)));
        called.add(call.group(2));
        if (call.group(1) != null) {
            names.put(call.group(1), (int) answer);
        }
    }

    private long answer(String name, String list) throws ReflectiveOperationException {
        List<Object> arguments = new ArrayList<>();
        for (String word : list.isEmpty() ? new String[0] : list.split(", ")) {
            arguments.add(number(word));
        }
        Class<?>[] types = new Class<?>[arguments.size()];
        Arrays.fill(types, int.class);
        Method method = CrackedColumn.class.getMethod(name, types);
        return ((Number) method.invoke(column, arguments.toArray())).longValue();
    }

    /** A number as it is written, a variable of the example, or a constant of the class. */
    private int number(String word) throws ReflectiveOperationException {
        if (word.matches("-?\\d+")) {
            return Integer.parseInt(word);
        }
        return names.containsKey(word) ? names.get(word) : CrackedColumn.class.getField(word).getInt(null);
    }

    private static Stream<Method> methods() {
        return Stream.of(CrackedColumn.class.getDeclaredMethods()).filter(m -> Modifier.isPublic(m.getModifiers()));
    }

    private static void theTableNamesEveryCall(String readme) {
        Due.says("README: the table of calls");
        String table = TABLE_CALL.matcher(readme).results()
            .map(row -> row.group(1) + " " + (row.group(2).isEmpty() ? 0 : row.group(2).split(", ").length))
            .sorted().collect(Collectors.joining("\n"));
        String face = methods()
            .map(m -> m.getName() + " " + m.getParameterCount())
            .sorted().collect(Collectors.joining("\n"));
        Due.same("calls with the number of their arguments", table, face);
    }

    private static void everyTestIsNamed(String readme) throws IOException {
        Due.says("README: the table of tests");
        TreeSet<String> named = TEST_NAME.matcher(readme).results()
            .map(found -> found.group(1)).collect(Collectors.toCollection(TreeSet::new));
        try (Stream<Path> files = Files.list(TESTS)) {
            TreeSet<String> there = files.map(file -> file.getFileName().toString())
                .filter(name -> name.endsWith("Test.java"))
                .map(name -> name.substring(0, name.length() - ".java".length()))
                .collect(Collectors.toCollection(TreeSet::new));
            Due.same("tests", named.toString(), there.toString());
        }
    }
}
