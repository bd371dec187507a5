import java.io.IOException;
import java.nio.file.Files;
import java.nio.file.Paths;
import java.util.ArrayList;
import java.util.LinkedHashMap;
import java.util.List;
import java.util.Map;
import java.util.regex.Matcher;
import java.util.regex.Pattern;

/**
 * Tests that are named by words of the document. At the end every sentence of the sections that are looked at must
 * have had a test, and words that the document does not say are wrong: so a changed document is seen here.
 */
abstract class SentenceChecks extends BoardChecks {
    private static final Pattern HEADING = Pattern.compile("#+ (?:Promise (\\d+): )?(.*)");
    private static final String SIGNATURE = "^`[^`]*\\([^`]*`: ";

    /** The sentences that have no test yet, by their sections; a promise's section is named by its number. */
    private final Map<String, List<String>> untested = new LinkedHashMap<>();
    private final Map<String, List<String>> said = new LinkedHashMap<>();
    private String section = "";
    private String sentence = "";
    private int checksBefore;

    SentenceChecks(String sections) throws IOException {
        String read = "";
        for (String line : Files.readAllLines(Paths.get("../shared/DOC.md"))) {
            Matcher heading = HEADING.matcher(line);
            if (heading.matches()) {
                read = heading.group(1) == null ? heading.group(2) : heading.group(1);
            } else if (read.matches(sections) && !line.isBlank() && !line.startsWith("Ahead of the calls")) {
                for (String words : line.replaceFirst(SIGNATURE, "").split("(?<=\\.) (?=[A-Z])")) {
                    untested.computeIfAbsent(read, name -> new ArrayList<>()).add(words);
                    said.computeIfAbsent(read, name -> new ArrayList<>()).add(words);
                }
            }
        }
    }

    final void section(String name) {
        section = name;
        checks.same("section " + name, "true", String.valueOf(said.containsKey(name)));
    }

    /** Starts the test of a sentence of the section, or of a part of one, on a new board. */
    final void says(String words) {
        endSentence();
        fresh(section + ": " + words);
        sentence = "";
        for (String whole : said.getOrDefault(section, List.of())) {
            if (sentence.isEmpty() && whole.contains(words)) {
                sentence = whole;
            }
        }
        checks.same("section " + section + " says \"" + words + "\"", "true", String.valueOf(!sentence.isEmpty()));
        checksBefore = checks.made();
    }

    private void endSentence() {
        if (!sentence.isEmpty() && checks.made() > checksBefore) {
            untested.get(section).remove(sentence);
        }
        sentence = "";
    }

    final void endSection() {
        endSentence();
        checks.same("sentences of section " + section + " without a test", "[]",
                String.valueOf(untested.remove(section)));
    }

    final void end(String name) {
        checks.same("sections without a test", "[]", String.valueOf(untested.keySet()));
        checks.end(name);
    }
}
