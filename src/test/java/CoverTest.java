import java.io.IOException;
import java.lang.reflect.Method;
import java.nio.file.Files;
import java.nio.file.Path;
import java.util.LinkedHashMap;
import java.util.List;
import java.util.Map;

/** That each test of an edge tells words of the document, and that each word of terms and promises has such a test. */
public final class CoverTest {
    private static final Class<?>[] TESTS = {HarnessEdgesTest.class, TextEdgesTest.class, TreeEdgesTest.class,
        PartsEdgesTest.class, VariantsEdgesTest.class, FlawsEdgesTest.class, BuildsEdgesTest.class, ActsEdgesTest.class,
        ToldEdgesTest.class};
    private static final String[] TERMS = {"I", "II", "III", "IV"};
    private static final String INTERFACE = "the interface says: ";

    /** By section: its words with single blanks between them; a word for which there is a test gives way to ~. */
    private static final Map<String, String> SECTIONS = new LinkedHashMap<>();
    private static final Map<String, String> LEFT = new LinkedHashMap<>();

    public static void main(String[] args) throws IOException {
        readSections(Files.readAllLines(Path.of("../shared/DOC.md")));
        LEFT.putAll(SECTIONS);
        for (Class<?> tests : TESTS) {
            for (Method test : Edges.testsOf(tests)) {
                cover(tests.getSimpleName() + "." + test.getName(), test.getAnnotation(Says.class));
            }
        }
        for (String section : LEFT.keySet()) {
            if (section.startsWith("Promise") || section.startsWith("The calls") || List.of(TERMS).contains(section)) {
                String rest = LEFT.get(section).replaceAll("[^A-Za-z0-9]*~[^A-Za-z0-9]*", "~");
                Bench.due(section + ": \"" + rest + "\" has no test", rest.matches("[~ ]*") ? 1 : 0, 1);
            }
        }
        Bench.due("promises", SECTIONS.keySet().stream().filter(name -> name.startsWith("Promise")).count(), 47);
        Bench.close("CoverTest");
    }

    private static void cover(String test, Says says) {
        String section = SECTIONS.getOrDefault(says.in(), "");
        Bench.due(test + ": the words \"" + says.words() + "\" stand in " + says.in(),
            section.contains(says.words()) ? 1 : 0, 1);
        LEFT.computeIfPresent(says.in(), (name, text) -> coveredBy(says.words(), section, text));
    }

    /** The text with ~ in the stead of each sign of the words, where they stand in the section. */
    private static String coveredBy(String words, String section, String text) {
        StringBuilder left = new StringBuilder(text);
        for (int at = section.indexOf(words); at >= 0; at = section.indexOf(words, at + 1)) {
            for (int i = at; i < at + words.length(); i++) {
                left.setCharAt(i, '~');
            }
        }
        return left.toString();
    }

    private static void readSections(List<String> lines) {
        String section = "";
        for (String line : lines) {
            if (line.startsWith("## ")) {
                section = line.substring(3).replaceAll(":.*", "");
            } else if (section.equals("Terms") || isTerm(section)) {
                section = readTerm(section, line);
            } else if (section.startsWith("Promise")) {
                add(section, line.replaceFirst("^`[^`]*`: ", ""));
            } else {
                add(section, line);
            }
        }
    }

    private static boolean isTerm(String section) {
        return List.of(TERMS).contains(section);
    }

    private static String readTerm(String section, String line) {
        String now = section;
        for (String term : TERMS) {
            now = line.startsWith(term + ". ") ? term : now;
        }
        if (line.startsWith("The constants: ")) {
            add("The constants", line);
        } else if (line.contains(INTERFACE)) {
            add("The calls", line.substring(line.indexOf(INTERFACE) + INTERFACE.length()));
        } else if (!line.startsWith("```")) {
            add(now, line.startsWith(now + ". ") ? line.substring(now.length() + 2) : line);
        }
        return now;
    }

    private static void add(String section, String line) {
        String words = line.trim().replaceAll("\\s+", " ");
        if (!words.isEmpty()) {
            SECTIONS.merge(section, words, (before, more) -> before + " " + more);
        }
    }
}
