import java.io.IOException;
import java.io.UncheckedIOException;
import java.nio.file.Files;
import java.nio.file.Path;
import java.util.LinkedHashMap;
import java.util.Map;

/** The document's sentences: each one is quoted with its test, and none may be left over. */
final class Sentences {
    private static final Path DOCUMENT = Path.of("..", "shared", "DOC.md");
    private static final String QUOTED = " | ";

    private static final Map<String, String> WHOLE = read();
    private static final Map<String, String> REST = new LinkedHashMap<>(WHOLE);

    private Sentences() {
    }

    /** Runs the test of a sentence of that section; a test that looks at nothing is a fault. */
    static void holds(String section, String sentence, Check.Act test) {
        Check.about(section + ": " + sentence);
        strike(section, sentence);
        int before = Check.count();
        Check.happens("the test", test);
        Check.is(true, "the test looks at something", Check.count() > before + 1);
        Check.about("");
    }

    /** Words that only name or lead over to what other sentences say. */
    static void noRule(String section, String words) {
        Check.about(section + ": " + words);
        strike(section, words);
        Check.about("");
    }

    static void tellTheRest() {
        for (Map.Entry<String, String> section : REST.entrySet()) {
            String left = section.getValue().replace(QUOTED.trim(), " ").trim();
            Check.is("", section.getKey() + ": words without a test", left);
        }
    }

    private static void strike(String section, String sentence) {
        if (WHOLE.isEmpty()) {
            return;
        }
        String whole = WHOLE.getOrDefault(section, "");
        Check.is(true, "the document has this sentence", whole.contains(sentence));
        String rest = REST.getOrDefault(section, "");
        int at = rest.indexOf(sentence);
        if (at >= 0) {
            REST.put(section, rest.substring(0, at) + QUOTED
                    + rest.substring(at + sentence.length()));
        }
    }

    private static Map<String, String> read() {
        Map<String, String> sections = new LinkedHashMap<>();
        if (!Files.isReadable(DOCUMENT)) {
            // The tests tell as much about the class without it.
            System.out.println(DOCUMENT + " is not here: the quotes are not compared with it");
            return sections;
        }
        String section = "";
        try {
            for (String line : Files.readAllLines(DOCUMENT)) {
                String heading = headingOf(line);
                if (!heading.isEmpty()) {
                    section = heading;
                } else if (!isLeftOut(section, line)) {
                    String words = line.trim().replaceAll("\\s+", " ");
                    sections.merge(section, words, (all, more) -> all + " " + more);
                }
            }
        } catch (IOException e) {
            throw new UncheckedIOException(e);
        }
        return sections;
    }

    private static String headingOf(String line) {
        if (line.startsWith("## Promise ")) {
            return line.substring(3, line.indexOf(':'));
        } else if (line.startsWith("## ")) {
            return line.substring(3);
        } else if (line.equals("The constants:")) {
            return "The constants";
        }
        return line.matches("[A-Z]+( [A-Z]+)*") ? line : "";
    }

    /** The face has a test of its own; a signature, or a parameter's bare name, tells no more. */
    private static boolean isLeftOut(String section, String line) {
        return line.isBlank() || section.isEmpty() || section.equals("The public face")
                || section.equals("Not promised") || line.matches("`.*`")
                || line.matches("- `\\w+`: (a|an|another|the) (site|base|item|unit|bytes)");
    }
}
