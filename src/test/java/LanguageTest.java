import java.io.IOException;
import java.nio.file.Files;
import java.nio.file.Paths;
import java.util.List;
import java.util.regex.Matcher;
import java.util.regex.Pattern;

/** Rules of LANGUAGE.md that can be seen in the text of the class. */
final class LanguageTest {
    private static final String[] NEVER = {
        "\\bsynchronized\\b", "\\bassert\\b", "\\bfinally\\b", "\\btry\\b", "\\bcatch\\b", "->", "::", "\\bpackage\\b",
        "\\bprotected\\b", "\\bThread\\b", "\\bSystem\\.(?!arraycopy\\b)", "\\bRandom\\b", "\\bObject\\b",
        "\\b(add|subtract|multiply|toInt|negate|increment|decrement)Exact\\b", "\\bwhile \\(true\\)", "\\bfor \\(;;\\)",
        "\\bint\\[\\]\\[\\]\\[\\]", "\\bhashCode\\b", "\\btoString\\b", "\\bequals\\b", "\\bString\\b",
    };
    private static final int LONGEST_METHOD = 60;
    private static final int MOST_PARAMETERS = 7;
    private static final int MOST_CLASSES = 12;

    public static void main(String[] args) throws IOException {
        Checks checks = new Checks();
        List<String> lines = Files.readAllLines(Paths.get("src/main/java/Sketchlock.java"));
        int classes = 0;
        int from = 0;
        for (int at = 0; at < lines.size(); at++) {
            String line = lines.get(at);
            String code = line.replaceAll("\"[^\"]*\"", "\"\"").replaceAll("//.*|^\\s*/?\\*.*", "");
            for (String never : NEVER) {
                checks.same("line " + (at + 1) + " has " + never, "false",
                        String.valueOf(Pattern.compile(never).matcher(code).find()));
            }
            checks.same("line " + (at + 1) + " has only signs 1 to 127", "true",
                    String.valueOf(line.chars().allMatch(sign -> sign > 0 && sign < 128)));
            if (code.startsWith("import ")) {
                checks.same("the import", "import java.util.NoSuchElementException;", code);
            }
            classes += code.matches(".*\\b(class|interface|enum|record)\\b.*") ? 1 : 0;
            if (code.matches("( {4}| {8})(public|private) .*\\(.*")) {
                from = at;
                checks.same("line " + (at + 1) + " has too many parameters", "false",
                        String.valueOf(parameters(code) > MOST_PARAMETERS));
            }
            if (code.matches("( {4}| {8})\\}")) {
                checks.same("the method up to line " + (at + 1) + " is too long", "false",
                        String.valueOf(at - from >= LONGEST_METHOD));
            }
        }
        checks.same("too many classes", "false", String.valueOf(classes > MOST_CLASSES));
        checks.end("LanguageTest");
    }

    private static int parameters(String code) {
        Matcher list = Pattern.compile("\\(([^)]*)\\)").matcher(code);
        return list.find() && !list.group(1).isBlank() ? list.group(1).split(",").length : 0;
    }
}
