import java.io.File;
import java.io.IOException;
import java.lang.ProcessBuilder.Redirect;
import java.lang.reflect.Method;
import java.lang.reflect.Modifier;
import java.nio.charset.StandardCharsets;
import java.nio.file.Files;
import java.nio.file.Path;
import java.util.Collections;
import java.util.Set;
import java.util.TreeSet;
import java.util.regex.Matcher;
import java.util.regex.Pattern;
import java.util.stream.Stream;

/** README.md: its example prints what is said there, and its tables name each call and each test. */
public final class ReadmeTest {
    private static final Check CHECK = new Check();

    public static void main(String[] args) throws Exception {
        String readme = Files.readString(Path.of("README.md"), StandardCharsets.UTF_8);
        example(readme);
        calls(readme);
        constants(readme);
        tests(readme);
        CHECK.finish();
    }

    private static String block(String readme, String kind) {
        Matcher matcher = Pattern.compile("\n```" + kind + "\n(.*?)```\n", Pattern.DOTALL).matcher(readme);
        return matcher.find() ? matcher.group(1) : "";
    }

    /** Compiled and run as README.md says it. */
    private static void example(String readme) throws IOException, InterruptedException {
        Path directory = Files.createTempDirectory("readme");
        Path source = directory.resolve("Example.java");
        String classes = System.getProperty("java.class.path") + File.pathSeparator + directory;
        try {
            Files.writeString(source, block(readme, "java"));
            printed("javac", "-cp", classes, "-d", directory.toString(), source.toString());
            CHECK.due("what the example prints", block(readme, "text"),
                    printed("java", "-cp", classes, "Example"));
        } finally {
            Files.deleteIfExists(directory.resolve("Example.class"));
            Files.deleteIfExists(source);
            Files.delete(directory);
        }
    }

    private static String printed(String... command) throws IOException, InterruptedException {
        Process process = new ProcessBuilder(command).redirectError(Redirect.INHERIT).start();
        process.getOutputStream().close();
        String printed = new String(process.getInputStream().readAllBytes(), StandardCharsets.UTF_8);
        CHECK.due("exit code of " + command[0], 0, process.waitFor());
        return printed.replace(System.lineSeparator(), "\n");
    }

    private static Set<String> firstCells(String readme, String pattern) {
        Set<String> cells = new TreeSet<>();
        Matcher matcher = Pattern.compile("^\\| (" + pattern + ")[^|]* \\|", Pattern.MULTILINE).matcher(readme);
        while (matcher.find()) {
            cells.add(matcher.group(1));
        }
        return cells;
    }

    private static void calls(String readme) {
        Set<String> calls = new TreeSet<>();
        for (Method method : EdgeVerses.class.getDeclaredMethods()) {
            if (Modifier.isPublic(method.getModifiers())) {
                int places = method.getParameterCount();
                String arguments = String.join(", ", Collections.nCopies(places, "[a-z]+"));
                String call = method.getName() + "\\(" + arguments + "\\)";
                CHECK.due("README.md has a row for " + call, 1, firstCells(readme, call).size());
                calls.add(method.getName());
            }
        }
        CHECK.due("rows of calls", calls.size(), firstCells(readme, "[a-zA-Z]+\\([a-z, ]*\\)").size());
    }

    private static void constants(String readme) throws IllegalAccessException {
        for (var field : EdgeVerses.class.getFields()) {
            String row = "| " + field.getName() + " | " + field.getInt(null) + " | ";
            CHECK.due("README.md has the row " + row, true, readme.contains("\n" + row));
        }
    }

    private static void tests(String readme) throws IOException {
        Set<String> tests = new TreeSet<>();
        try (Stream<Path> files = Files.list(Path.of("src/test/java"))) {
            files.map(file -> file.getFileName().toString())
                    .filter(name -> name.endsWith("Test.java"))
                    .forEach(name -> tests.add(name.replace(".java", "")));
        }
        CHECK.due("tests of the table", tests, firstCells(readme, "[A-Z][a-zA-Z]+Test"));
    }
}
