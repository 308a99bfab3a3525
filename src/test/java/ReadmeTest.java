import java.io.ByteArrayOutputStream;
import java.io.IOException;
import java.io.PrintStream;
import java.nio.charset.StandardCharsets;
import java.nio.file.DirectoryStream;
import java.nio.file.Files;
import java.nio.file.Path;

/** That README.md shows the program Example and what it prints, and names each test of the project. */
public final class ReadmeTest {
    private static final Path TESTS = Path.of("src/test/java");

    public static void main(String[] args) throws IOException {
        String readme = Files.readString(Path.of("README.md"));
        shows(readme, "the program", "```java\n" + Files.readString(TESTS.resolve("Example.java")) + "```");
        shows(readme, "what it prints", "It prints:\n\n```text\n" + printed() + "```");
        shows(readme, "how all tests are run", "`.ci/run`");
        try (DirectoryStream<Path> tests = Files.newDirectoryStream(TESTS, "*Test.java")) {
            for (Path test : tests) {
                String name = test.getFileName().toString().replace(".java", "");
                shows(readme, name, "| " + name + " |");
            }
        }
        Bench.close("ReadmeTest");
    }

    private static void shows(String readme, String what, String text) {
        Bench.due("README.md shows " + what, readme.contains(text) ? 1 : 0, 1);
    }

    /** What Example prints, with single line feeds on every machine. */
    private static String printed() {
        PrintStream out = System.out;
        ByteArrayOutputStream bytes = new ByteArrayOutputStream();
        System.setOut(new PrintStream(bytes, true, StandardCharsets.UTF_8));
        try {
            Example.main(new String[0]);
        } finally {
            System.setOut(out);
        }
        return bytes.toString(StandardCharsets.UTF_8).replace(System.lineSeparator(), "\n");
    }
}
