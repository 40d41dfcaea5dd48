import java.nio.file.Files;
import java.nio.file.Path;
import java.util.List;
import java.util.regex.Matcher;
import java.util.regex.Pattern;

/** What of LANGUAGE.md can be seen in the text of the class. Runs from the project's root. */
public final class LanguageTests {
    private static final String[] BARRED = {
        "\\bimport\\b", "\\bpackage\\b", "->", "::", "\\btry\\b", "\\bcatch\\b", "\\bfinally\\b", "\\bthrow\\b",
        "\\bsynchronized\\b", "\\bassert\\b", "\\bwhile\\b", "\\w+Exact\\b", "\\bSystem\\b", "\\bprotected\\b",
        "\\bstatic\\s*\\{", "\\bdouble\\b", "\\bfloat\\b", "\\bnull\\b"
    };

    public static void main(String[] args) throws Exception {
        Due due = new Due("the language");
        List<String> lines = Files.readAllLines(Path.of("src/main/java/LineSearch.java"));
        String code = String.join("\n", lines).replaceAll("(?s)/\\*.*?\\*/", "").replaceAll("//[^\n]*", "");
        for (String barred : BARRED) {
            Matcher found = Pattern.compile(barred).matcher(code);
            due.holds(!found.find(), "the class uses " + barred);
        }
        int since = 0;
        for (int i = 0; i < lines.size(); i++) {
            String line = lines.get(i);
            if (line.matches("( {4}| {8})(public|private|int|void|boolean|[A-Z]).*\\) \\{")) since = i;
            if (line.matches("( {4}| {8})\\}")) due.holds(i - since <= 60, "the method at line " + (since + 1) + " is long");
            due.holds(line.chars().allMatch(c -> c >= 32 && c < 127), "line " + (i + 1) + " has another sign");
        }
        due.close();
    }
}
