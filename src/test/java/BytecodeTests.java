import java.io.PrintWriter;
import java.io.StringWriter;
import java.nio.file.Files;
import java.nio.file.Path;
import java.util.ArrayList;
import java.util.List;
import java.util.Map;
import java.util.Set;
import java.util.TreeMap;
import java.util.TreeSet;
import java.util.regex.Matcher;
import java.util.regex.Pattern;
import java.util.spi.ToolProvider;
import java.util.stream.Stream;

/** What LANGUAGE.md asks that shows best in the compiled class: what is called, how deep, where objects are made. */
public final class BytecodeTests {
    private static final Pattern TYPE = Pattern.compile("(?:\\w+ )*class ([\\w$]+) .*\\{");
    private static final Pattern METHOD = Pattern.compile("  (?:[\\w\\[\\].$]+ )*([\\w$]+)\\(.*\\);");
    private static final Pattern STEP = Pattern.compile(" +\\d+: (\\w+).*");
    private static final Pattern CALL = Pattern.compile(".*// (?:Interface)?Method (?:([\\w$/]+)\\.)?\"?(<?\\w+>?)\"?:.*");
    private static final Set<String> LIBRARY = Set.of("java/lang/Object.<init>", "java/lang/Math.max", "java/lang/Math.min");
    private static final Set<String> ROWS = Set.of("LineSearch.at", "LineSearch.put", "LineSearch.putAll");
    private static final int MOST_DEEP = 8;

    private final Due due = new Due("the bytecode");
    private final Map<String, Set<String>> calls = new TreeMap<>();
    private String type = "";
    private String method = "";

    public static void main(String[] args) throws Exception {
        BytecodeTests tests = new BytecodeTests();
        for (String line : javap()) tests.read(line);
        for (String from : tests.calls.keySet()) tests.deep(from, List.of());
        tests.due.holds(tests.calls.containsKey("LineSearch.told"), "the compiled class was not read");
        tests.due.close();
    }

    private static String[] javap() throws Exception {
        Path root = Path.of(LineSearch.class.getProtectionDomain().getCodeSource().getLocation().toURI());
        List<String> with = new ArrayList<>(List.of("-c", "-p"));
        try (Stream<Path> files = Files.list(root)) {
            files.map(Path::toString).filter(f -> f.matches(".*/LineSearch(\\$\\w+)?\\.class")).forEach(with::add);
        }
        StringWriter text = new StringWriter();
        ToolProvider.findFirst("javap").orElseThrow().run(new PrintWriter(text), new PrintWriter(System.out), with.toArray(new String[0]));
        return text.toString().split("\n");
    }

    private void read(String line) {
        Matcher found = TYPE.matcher(line);
        if (found.matches()) type = found.group(1);
        found = METHOD.matcher(line);
        if (found.matches()) {
            method = type + "." + (found.group(1).equals(type) ? "<init>" : found.group(1));
            calls.put(method, new TreeSet<>());
        }
        found = STEP.matcher(line);
        if (found.matches()) step(found.group(1), line);
    }

    private void step(String code, String line) {
        String at = method + ":" + line;
        if (code.matches("new|newarray|anewarray|multianewarray")) due.holds(method.endsWith("<init>"), "made by a call, " + at);
        if (code.matches("[ilfdabcs]a(load|store)")) due.holds(ROWS.contains(method), "an index that may be unlooked at, " + at);
        due.holds(!code.matches("athrow|checkcast|instanceof|monitor\\w+|invokedynamic|invokeinterface"), "not to be there, " + at);
        Matcher call = CALL.matcher(line);
        if (!code.startsWith("invoke") || !call.matches()) return;
        String to = (call.group(1) == null ? type : call.group(1)) + "." + call.group(2);
        if (to.startsWith("LineSearch")) calls.get(method).add(to);
        else due.holds(LIBRARY.contains(to), "not known to be of the library that is left, " + at);
    }

    private void deep(String from, List<String> open) {
        due.holds(!open.contains(from), from + " calls itself by " + open);
        due.holds(open.size() < MOST_DEEP, from + " is deeper than " + MOST_DEEP + " by " + open);
        if (open.contains(from) || open.size() >= MOST_DEEP) return;
        List<String> next = new ArrayList<>(open);
        next.add(from);
        for (String to : calls.getOrDefault(from, Set.of())) deep(to, next);
    }
}
