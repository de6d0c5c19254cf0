import java.io.File;
import java.io.IOException;
import java.nio.file.Files;
import java.nio.file.Path;
import java.util.List;
import java.util.regex.Matcher;
import java.util.regex.Pattern;
import java.util.stream.Collectors;
import java.util.stream.Stream;
import javax.tools.ToolProvider;

/** What README.md shows is true: its example compiles and prints what stands there, and it names every test. */
public final class ReadmeTest {
    private static final Path TESTS = Path.of("src/test/java");
    private static final Path SHARED_TESTS = Path.of("../shared/tests");
    private final Checks checks = new Checks();
    private final String page;

    private ReadmeTest(Path readme) throws IOException {
        page = Files.readString(readme);
    }

    public static void main(String[] args) throws Exception {
        ReadmeTest test = new ReadmeTest(Path.of("README.md"));
        test.example();
        test.names();
        test.commands();
        test.checks.end();
    }

    /** The first block of the page in a language. */
    private String block(String language) {
        Matcher m = Pattern.compile("```" + language + "\n(.*?)```", Pattern.DOTALL).matcher(page);
        return m.find() ? m.group(1) : "";
    }

    // ---- the example ----

    private void example() throws Exception {
        checks.about("README.md, the example");
        Path folder = Files.createTempDirectory("readme");
        try {
            Path source = folder.resolve("Example.java");
            Files.writeString(source, block("java"));
            String classes = System.getProperty("java.class.path");
            int flaw = ToolProvider.getSystemJavaCompiler().run(null, null, null, "-Xlint:all", "-Werror",
                "-proc:none", "-cp", classes, "-d", folder.toString(), source.toString());
            checks.due("javac", flaw, 0);
            printed(flaw == 0 ? run(folder + File.pathSeparator + classes) : "");
        } finally {
            for (String name : new String[] {"Example.class", "Example.java", ""}) {
                Files.deleteIfExists(folder.resolve(name));
            }
        }
    }

    private String run(String classes) throws Exception {
        String java = Path.of(System.getProperty("java.home"), "bin", "java").toString();
        Process process = new ProcessBuilder(java, "-cp", classes, "Example").redirectErrorStream(true).start();
        process.getOutputStream().close();
        String printed = new String(process.getInputStream().readAllBytes());
        checks.due("the exit code", process.waitFor(), 0);
        return printed;
    }

    private void printed(String text) {
        List<String> got = text.lines().collect(Collectors.toList());
        List<String> due = block("text").lines().collect(Collectors.toList());
        checks.that("there is something to print", !due.isEmpty());
        checks.due("lines", got.size(), due.size());
        for (int i = 0; i < got.size() && i < due.size(); i++) {
            checks.that("it prints '" + got.get(i) + "', the page says '" + due.get(i) + "'", got.get(i).equals(due.get(i)));
        }
    }

    // ---- the tests ----

    private static List<String> testsIn(Path folder, String ending) throws IOException {
        try (Stream<Path> files = Files.list(folder)) {
            return files.map(file -> file.getFileName().toString()).filter(name -> name.endsWith(ending))
                .map(name -> name.substring(0, name.length() - ".java".length())).collect(Collectors.toList());
        }
    }

    private void names() throws IOException {
        checks.about("README.md, the tests");
        for (String name : testsIn(TESTS, "Test.java")) {
            checks.that(name + " isn't told of", page.contains("- `" + name + "`: "));
        }
    }

    /** Each test that a command runs is there to be run, and the script for all of them too. */
    private void commands() throws IOException {
        checks.about("README.md, the commands");
        checks.that("no command runs all tests", page.contains("\n    .ci/run\n"));
        checks.that(".ci/run can't be run", Files.isExecutable(Path.of(".ci/run")));
        List<String> known = testsIn(TESTS, "Test.java");
        known.addAll(testsIn(SHARED_TESTS, ".java"));
        Matcher m = Pattern.compile("\n    javac .* && java -cp \\S+ (\\w+)(?=\n)").matcher(page);
        int single = 0;
        while (m.find()) {
            String name = m.group(1);
            single += known.contains(name) ? 1 : 0;
            checks.that("there is no test " + name, known.contains(name) || name.equals("Example"));
        }
        checks.that("no command runs a single test", single > 0);
    }
}
