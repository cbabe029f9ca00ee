import java.io.IOException;
import java.lang.reflect.Field;
import java.lang.reflect.Method;
import java.lang.reflect.Modifier;
import java.nio.file.Files;
import java.nio.file.Path;
import java.util.List;
import java.util.Map;
import java.util.Set;
import java.util.TreeMap;
import java.util.TreeSet;
import java.util.function.Function;
import java.util.regex.Matcher;
import java.util.regex.Pattern;
import java.util.stream.Stream;

/**
 * What README.md says of the class is true of it: the calls of its examples are made as they stand there and must
 * answer what stands behind them, and its tables and its list of tests are whole. It is run from the project's folder.
 */
public final class ReadmeTest extends Checks {
    private static final Path README = Path.of("README.md");
    private static final Path TESTS = Path.of("src/test/java");
    private static final String MAKING = "WovenDebugger x = new WovenDebugger();";
    private static final Pattern EXAMPLE = Pattern.compile("(?ms)^```java\\n(.*?)^```$");
    private static final Pattern CALL_LINE = Pattern.compile(
        "x\\.(\\w+)\\(((?:-?\\d+(?:, -?\\d+)*)?)\\); +// (-?\\d+|[A-Z_]+)(: .+)?");
    private static final Pattern CALL_ROW = Pattern.compile("(?m)^\\| `(\\w+)\\((.*?)\\)` \\|");
    private static final Pattern CONSTANT_CELLS = Pattern.compile("\\| ([A-Z_]+) \\| (-?\\d+) \\|");
    private static final Pattern OP_ROW = Pattern.compile("(?m)^\\| (\\d+) \\| ([A-Z]+) \\|");
    private static final Pattern TEST_ITEM = Pattern.compile("(?m)^- `(\\w+)`: ");
    private static final List<String> OPS = List.of(
        "SET", "MOVE", "ADD", "SUB", "MUL", "JUMP", "JLESS", "JZERO", "CALL", "RETURN", "OUT");

    private static final Set<String> called = new TreeSet<>();

    public static void main(String[] args) throws IOException, ReflectiveOperationException {
        String text = Files.readString(README);
        examples(text);
        due("README.md: calls in the examples", called.toString(), publicMethods().keySet().toString());
        due("README.md: the table of the calls", pairs(CALL_ROW, text, ReadmeTest::countNames).toString(),
            publicMethods().toString());
        due("README.md: the table of the constants", pairs(CONSTANT_CELLS, text, Integer::valueOf).toString(),
            constants().toString());
        ops(text);
        due("README.md: the list of the tests", names(TEST_ITEM, text).toString(), testFiles().toString());
        finish();
    }

    private static void examples(String text) throws ReflectiveOperationException {
        Matcher example = EXAMPLE.matcher(text);
        int found = 0;
        while (example.find()) {
            found++;
            example("README.md, example " + found, example.group(1).split("\n"));
        }
        due("README.md: examples", found, 2);
    }

    private static void example(String what, String[] lines) throws ReflectiveOperationException {
        due(what + ": its first line", lines[0], MAKING);
        WovenDebugger x = new WovenDebugger();
        for (int i = 1; i < lines.length; i++) {
            Matcher line = CALL_LINE.matcher(lines[i]);
            if (line.matches()) {
                int got = answer(x, line.group(1), line.group(2));
                due(what + ": " + lines[i], got, named(line.group(3)));
            } else {
                due(what, "a line that is not a call with its answer", lines[i]);
            }
        }
    }

    private static int answer(WovenDebugger x, String name, String given) throws ReflectiveOperationException {
        called.add(name);
        String[] words = given.isEmpty() ? new String[0] : given.split(", ");
        Class<?>[] types = new Class<?>[words.length];
        Object[] values = new Object[words.length];
        for (int i = 0; i < words.length; i++) {
            types[i] = int.class;
            values[i] = Integer.valueOf(words[i]);
        }
        return (int) WovenDebugger.class.getMethod(name, types).invoke(x, values);
    }

    private static int named(String answer) throws ReflectiveOperationException {
        return Character.isLetter(answer.charAt(0))
            ? WovenDebugger.class.getField(answer).getInt(null) : Integer.parseInt(answer);
    }

    /** The public methods, each with the number of its parameters. */
    private static Map<String, Integer> publicMethods() {
        Map<String, Integer> all = new TreeMap<>();
        for (Method method : WovenDebugger.class.getDeclaredMethods()) {
            if (Modifier.isPublic(method.getModifiers())) {
                all.put(method.getName(), method.getParameterCount());
            }
        }
        return all;
    }

    private static Map<String, Integer> constants() throws ReflectiveOperationException {
        Map<String, Integer> all = new TreeMap<>();
        for (Field field : WovenDebugger.class.getFields()) {
            all.put(field.getName(), field.getInt(null));
        }
        return all;
    }

    private static Integer countNames(String parameters) {
        return parameters.isEmpty() ? 0 : parameters.split(", ").length;
    }

    private static Map<String, Integer> pairs(Pattern row, String text, Function<String, Integer> value) {
        Map<String, Integer> all = new TreeMap<>();
        Matcher found = row.matcher(text);
        while (found.find()) {
            all.put(found.group(1), value.apply(found.group(2)));
        }
        return all;
    }

    private static void ops(String text) {
        Matcher row = OP_ROW.matcher(text);
        int op = 0;
        while (row.find()) {
            String want = op < OPS.size() ? op + " " + OPS.get(op) : "no such row";
            due("README.md: the table of the instructions", row.group(1) + " " + row.group(2), want);
            op++;
        }
        due("README.md: instructions in the table", op, OPS.size());
    }

    private static Set<String> names(Pattern item, String text) {
        Set<String> all = new TreeSet<>();
        Matcher found = item.matcher(text);
        while (found.find()) {
            all.add(found.group(1));
        }
        return all;
    }

    private static Set<String> testFiles() throws IOException {
        Set<String> all = new TreeSet<>();
        try (Stream<Path> files = Files.list(TESTS)) {
            files.forEach(file -> all.add(file.getFileName().toString().replace(".java", "")));
        }
        return all;
    }
}
