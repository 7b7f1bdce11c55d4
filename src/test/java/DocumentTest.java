import java.lang.reflect.Method;
import java.nio.file.Files;
import java.nio.file.Path;
import java.util.ArrayList;
import java.util.List;
import java.util.Set;
import java.util.TreeSet;

/** Checks that src/test/sentences.txt has every sentence of the document, with tests that there are. */
final class DocumentTest {
    private static final Path DOCUMENT = Path.of("../shared/DOC.md");
    private static final Path SENTENCES = Path.of("src/test/sentences.txt");
    private static final String NO_BOUNDARY = "(names no boundary)";
    private static final String INDENT = "    ";

    public static void main(String[] args) throws Exception {
        Due.runAll(DocumentTest.class);
    }

    private static boolean isSignature(String line) {
        return line.startsWith("`") && line.endsWith("`");
    }

    /** The document's sentences, each behind the title of its section; code and signatures are left out. */
    private static List<String> sentencesOfTheDocument() throws Exception {
        List<String> sentences = new ArrayList<>();
        String section = "";
        boolean code = false;
        for (String line : Files.readAllLines(DOCUMENT)) {
            code ^= line.startsWith("```");
            if (line.startsWith("## ")) {
                section = line.substring(3);
            }
            boolean text = !code && !line.isBlank() && !line.startsWith("#") && !line.startsWith("```")
                    && !line.startsWith("---- ") && !isSignature(line) && !section.equals("Not promised");
            if (text) {
                for (String sentence : line.split("(?<!^\\d\\.)(?<=[.)]) (?=[A-Z(])")) {
                    sentences.add(section + " | " + sentence);
                }
            }
        }
        return sentences;
    }

    private static List<String> lines() throws Exception {
        List<String> lines = new ArrayList<>();
        for (String line : Files.readAllLines(SENTENCES)) {
            if (!line.isBlank() && !line.startsWith("#")) {
                lines.add(line);
            }
        }
        return lines;
    }

    static void everySentenceIsListed() throws Exception {
        List<String> listed = new ArrayList<>();
        String section = "";
        for (String line : lines()) {
            if (line.startsWith("== ")) {
                section = line.substring(3);
            } else if (!line.startsWith(INDENT)) {
                listed.add(section + " | " + line);
            }
        }
        List<String> due = sentencesOfTheDocument();
        for (int i = 0; i < Math.max(listed.size(), due.size()); i++) {
            Due.same("sentence " + i, i < listed.size() ? listed.get(i) : "", i < due.size() ? due.get(i) : "");
        }
    }

    static void everySentenceHasATest() throws Exception {
        List<String> lines = lines();
        for (int i = 0; i < lines.size(); i++) {
            String line = lines.get(i);
            boolean followed = i + 1 < lines.size() && lines.get(i + 1).startsWith(INDENT);
            if (!line.startsWith("== ") && !line.startsWith(INDENT)) {
                Due.holds("there is a test for: " + line, followed);
            }
        }
    }

    private static Set<String> listedTests() throws Exception {
        Set<String> tests = new TreeSet<>();
        for (String line : lines()) {
            if (line.startsWith(INDENT) && !line.strip().equals(NO_BOUNDARY)) {
                tests.add(line.strip());
            }
        }
        return tests;
    }

    private static boolean exists(String test) {
        int dot = test.indexOf('.');
        try {
            return dot > 0 && Due.isTest(Class.forName(test.substring(0, dot))
                    .getDeclaredMethod(test.substring(dot + 1)));
        } catch (ReflectiveOperationException e) {
            return false;
        }
    }

    static void everyListedTestExists() throws Exception {
        for (String test : listedTests()) {
            Due.holds(test + " is a test", exists(test));
        }
    }

    /** So that a new test gets its place in the list. */
    static void everyBoundsTestIsListed() throws Exception {
        Set<String> listed = listedTests();
        Class<?>[] classes = {BoardBoundsTest.class, GameBoundsTest.class, ConnectionBoundsTest.class,
            FillingBoundsTest.class, SolvingBoundsTest.class, RegionBoundsTest.class, ThreatBoundsTest.class,
            RandomBoundsTest.class, TextBoundsTest.class, SlotBoundsTest.class, ErrorBoundsTest.class};
        for (Class<?> tests : classes) {
            for (Method method : tests.getDeclaredMethods()) {
                String name = tests.getName() + "." + method.getName();
                Due.holds(name + " is listed", !Due.isTest(method) || listed.contains(name));
            }
        }
    }
}
