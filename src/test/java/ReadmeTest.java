import java.io.IOException;
import java.lang.reflect.Method;
import java.lang.reflect.Modifier;
import java.nio.charset.StandardCharsets;
import java.nio.file.Files;
import java.nio.file.Path;
import java.util.List;
import java.util.stream.Stream;

/** README.md: its example prints what is said there, and it names every call, every test and how to run them. */
public final class ReadmeTest {
    public static void main(String[] args) throws IOException, InterruptedException {
        String page = Files.readString(Path.of("README.md"));
        example(page);
        calls(page);
        tests(page);
        Check.end("ReadmeTest");
    }

    private static void example(String page) throws IOException, InterruptedException {
        String want = block(page, "text");
        String got = printed(block(page, "java"));
        Check.due("the example prints\n" + got + "and not\n" + want, got.equals(want), true);
    }

    /** The first block of that language, empty if there is none. */
    private static String block(String page, String language) {
        String opening = "\n```" + language + "\n";
        int start = page.indexOf(opening);
        int end = page.indexOf("\n```\n", start + opening.length());
        return start < 0 || end < 0 ? "" : page.substring(start + opening.length(), end + 1);
    }

    /** What the example prints, compiled and run by java in a folder of its own. */
    private static String printed(String program) throws IOException, InterruptedException {
        Path folder = Files.createTempDirectory("readme");
        Path file = folder.resolve("Example.java");
        Path output = folder.resolve("output");
        try {
            Files.writeString(file, program);
            String java = Path.of(System.getProperty("java.home"), "bin", "java").toString();
            new ProcessBuilder(java, "-cp", System.getProperty("java.class.path"), file.toString())
                    .redirectErrorStream(true).redirectOutput(output.toFile()).start().waitFor();
            return Files.readString(output, StandardCharsets.UTF_8);
        } finally {
            Files.deleteIfExists(file);
            Files.deleteIfExists(output);
            Files.deleteIfExists(folder);
        }
    }

    private static void calls(String page) {
        for (Method method : DryWells.class.getDeclaredMethods()) {
            if (Modifier.isPublic(method.getModifiers())) {
                Check.due(method.getName() + " has its row", page.contains("\n| `" + method.getName() + "("), true);
            }
        }
    }

    /** Each test has its row, and .ci/run, which README.md names, is there and runs them all. */
    private static void tests(String page) throws IOException {
        Check.due("how to run the tests", page.contains("\n```sh\n.ci/run\n```\n"), true);
        Check.due(".ci/run can be run", Files.isExecutable(Path.of(".ci/run")), true);
        String script = Files.readString(Path.of(".ci/run"));
        Check.due("all tests of the project", script.contains("src/test/java/*Test.java"), true);
        Check.due("all shared tests", script.contains("shared=../shared/tests"), true);
        for (String name : testNames()) {
            Check.due(name + " has its row", page.contains("\n| `" + name + "` |"), true);
        }
    }

    private static List<String> testNames() throws IOException {
        try (Stream<Path> files = Files.list(Path.of("src/test/java"))) {
            return files.map(file -> file.getFileName().toString())
                    .filter(name -> name.endsWith("Test.java"))
                    .map(name -> name.substring(0, name.length() - ".java".length()))
                    .sorted().toList();
        }
    }
}
