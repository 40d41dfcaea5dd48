import java.lang.reflect.Method;
import java.lang.reflect.Modifier;
import java.nio.file.Files;
import java.nio.file.Path;
import java.util.List;
import java.util.Map;
import java.util.TreeMap;
import java.util.TreeSet;
import java.util.regex.Matcher;
import java.util.regex.Pattern;
import java.util.stream.Stream;

/** What README.md shows: each call answers what stands beside it, and nothing is left out. Runs from the project's root. */
public final class ReadmeTests {
    private static final Pattern CALL = Pattern.compile("x\\.(\\w+)\\(([-\\d, ]*)\\);\\s+// (-?\\d+)(: .*)?");
    private static final Pattern MEANING = Pattern.compile("\\d: ([A-Z]+)\\b.*");
    private static final Pattern CONSTANT = Pattern.compile("\\| `([A-Z]+)` \\((-\\d)\\) \\| .*");

    private final Due due = new Due("README");
    private final Map<String, Method> methods = new TreeMap<>();
    private final TreeSet<String> unused;
    private LineSearch x = null;

    private ReadmeTests() {
        for (Method method : LineSearch.class.getDeclaredMethods()) {
            if (Modifier.isPublic(method.getModifiers())) methods.put(method.getName(), method);
        }
        unused = new TreeSet<>(methods.keySet());
    }

    public static void main(String[] args) throws Exception {
        List<String> lines = Files.readAllLines(Path.of("README.md"));
        ReadmeTests tests = new ReadmeTests();
        tests.calls(lines);
        tests.constants(lines);
        tests.namesAllTests(lines);
        tests.due.close();
    }

    /** All blocks of Java are one run of calls, and all of their lines show what is answered. */
    private void calls(List<String> lines) throws Exception {
        boolean inside = false;
        int calls = 0;
        for (String line : lines) {
            if (line.startsWith("```")) {
                inside = line.equals("```java");
            } else if (inside && line.equals("LineSearch x = new LineSearch();")) {
                x = new LineSearch();
                calls = 0;
            } else if (inside) {
                call(line);
                calls++;
            }
        }
        due.holds(calls <= 512, "one object is used for " + calls + " calls");
        due.holds(unused.isEmpty(), "no example of " + unused);
    }

    private void call(String line) throws Exception {
        Matcher parts = CALL.matcher(line);
        if (!parts.matches() || x == null || !methods.containsKey(parts.group(1))) {
            due.holds(false, "not a call with its answer: " + line);
            return;
        }
        Method method = methods.get(parts.group(1));
        String[] told = parts.group(2).isEmpty() ? new String[0] : parts.group(2).split(", ");
        if (told.length != method.getParameterCount()) {
            due.holds(false, "not so many numbers: " + line);
            return;
        }
        Object[] numbers = new Object[told.length];
        for (int i = 0; i < told.length; i++) numbers[i] = Integer.valueOf(told[i]);
        int answer = Integer.parseInt(parts.group(3));
        due.is(line, (Integer) method.invoke(x, numbers), answer);
        unused.remove(method.getName());
        if (answer < 0) {
            Matcher meaning = MEANING.matcher(line.substring(line.lastIndexOf("// ") + 4));
            due.holds(meaning.matches() && constant(meaning.group(1)) == answer, "not the name of its answer: " + line);
        }
    }

    private static int constant(String name) throws Exception {
        return LineSearch.class.getField(name).getInt(null);
    }

    private void constants(List<String> lines) throws Exception {
        TreeSet<String> shown = new TreeSet<>();
        int last = 0;
        for (String line : lines) {
            Matcher row = CONSTANT.matcher(line);
            if (!row.matches()) continue;
            int value = Integer.parseInt(row.group(2));
            due.is(row.group(1), constant(row.group(1)), value);
            due.holds(value < last, row.group(1) + " stands below one that is answered later");
            last = value;
            shown.add(row.group(1));
        }
        due.is("constants shown", shown.size(), LineSearch.class.getFields().length);
    }

    private void namesAllTests(List<String> lines) throws Exception {
        try (Stream<Path> files = Files.list(Path.of("src/test/java"))) {
            for (Path file : files.toList()) {
                String name = file.getFileName().toString().replace(".java", "");
                String sign = name.endsWith("Tests") ? "| " + name + " | " : "`" + name + "`";
                due.holds(lines.stream().anyMatch(line -> line.contains(sign)), name + " is not named");
            }
        }
    }
}
