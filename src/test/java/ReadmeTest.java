import java.io.IOException;
import java.nio.charset.StandardCharsets;
import java.nio.file.Files;
import java.nio.file.Path;
import java.nio.file.Paths;
import java.util.ArrayList;
import java.util.Comparator;
import java.util.List;
import java.util.regex.Matcher;
import java.util.regex.Pattern;
import java.util.stream.Collectors;
import java.util.stream.Stream;

/** What README.md says works as it is written: its program answers as it says, and its commands run. */
final class ReadmeTest {
    private static final Path README = Paths.get("README.md");
    private static final Path EXAMPLE = Paths.get("src/example/java/Example.java");
    private static final Path TESTS = Paths.get("src/test/java");
    /** This test is run by it: so it is not run from here, or that would have no end. */
    private static final String RUN_ALL = "bash .ci/run";
    private static final String RUN_EXAMPLE = "java -cp build Example";
    private static final Pattern SHOWN = Pattern.compile("show\\(.*\\); // (.*?)(: .*)?");

    private final Checks checks = new Checks();
    private final List<String> program = new ArrayList<>();
    private final List<String> commands = new ArrayList<>();

    public static void main(String[] args) throws IOException, InterruptedException {
        ReadmeTest test = new ReadmeTest();
        test.readBlocks();
        test.program();
        test.tests();
        test.commands();
        test.checks.end("ReadmeTest");
    }

    /** What stands between ```java or ```sh and ``` is the program, or commands, a line each. */
    private void readBlocks() throws IOException {
        List<String> block = null;
        for (String line : Files.readAllLines(README)) {
            if (line.startsWith("```")) {
                block = line.equals("```java") ? program : line.equals("```sh") ? commands : null;
            } else if (block != null) {
                block.add(line);
            }
        }
    }

    private void program() throws IOException {
        checks.same("the program of README.md", Files.readString(EXAMPLE), text(program));
        for (String line : program) {
            String call = line.trim();
            if (call.startsWith("show(")) {
                checks.same(call + " says its answer", "true", String.valueOf(SHOWN.matcher(call).matches()));
            }
        }
    }

    private String answersSaid() {
        List<String> answers = new ArrayList<>();
        for (String line : program) {
            Matcher shown = SHOWN.matcher(line.trim());
            if (shown.matches()) {
                answers.add(shown.group(1));
            }
        }
        return text(answers);
    }

    private void tests() throws IOException {
        String readme = Files.readString(README);
        try (Stream<Path> files = Files.list(TESTS)) {
            for (Path file : files.collect(Collectors.toList())) {
                String name = file.getFileName().toString().replace(".java", "");
                if (name.endsWith("Test")) {
                    checks.same("README.md has a line on " + name, "true",
                            String.valueOf(Pattern.compile("(?m)^- .*`" + name + "`").matcher(readme).find()));
                }
            }
        }
    }

    private void commands() throws IOException, InterruptedException {
        checks.same("README.md says how all tests are run", "true", String.valueOf(commands.contains(RUN_ALL)));
        checks.same("README.md says how its program is run", "true", String.valueOf(commands.contains(RUN_EXAMPLE)));
        checks.same(".ci/run can be executed", "true", String.valueOf(Files.isExecutable(Paths.get(".ci/run"))));
        Path project = Files.createTempDirectory("readme");
        try {
            copy(Paths.get("src"), project.resolve("src"));
            for (String command : commands) {
                if (!command.equals(RUN_ALL)) {
                    run(command, project);
                }
            }
        } finally {
            remove(project);
        }
    }

    private void run(String command, Path project) throws IOException, InterruptedException {
        Process process = new ProcessBuilder("bash", "-c", command).directory(project.toFile())
                .redirectError(ProcessBuilder.Redirect.INHERIT).start();
        String printed = new String(process.getInputStream().readAllBytes(), StandardCharsets.UTF_8);
        checks.same(command + " (" + printed.trim() + ") ends with", "0", String.valueOf(process.waitFor()));
        if (command.equals(RUN_EXAMPLE)) {
            checks.same(command, answersSaid(), printed);
        }
    }

    private static String text(List<String> lines) {
        StringBuilder text = new StringBuilder();
        for (String line : lines) {
            text.append(line).append('\n');
        }
        return text.toString();
    }

    private static void copy(Path from, Path to) throws IOException {
        try (Stream<Path> files = Files.walk(from)) {
            for (Path file : files.collect(Collectors.toList())) {
                Files.copy(file, to.resolve(from.relativize(file).toString()));
            }
        }
    }

    private static void remove(Path directory) throws IOException {
        try (Stream<Path> files = Files.walk(directory)) {
            for (Path file : files.sorted(Comparator.reverseOrder()).collect(Collectors.toList())) {
                Files.delete(file);
            }
        }
    }
}
