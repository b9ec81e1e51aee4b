import java.io.IOException;
import java.io.UncheckedIOException;
import java.nio.charset.StandardCharsets;
import java.nio.file.Files;
import java.nio.file.Path;
import java.util.ArrayList;
import java.util.LinkedHashMap;
import java.util.List;
import java.util.Map;

/** The document by sections, so that a test can quote the very words that it holds the class to. */
final class Doc {
    private static final Path FILE = Path.of("../shared/DOC.md");
    private static final List<String> TOPICS = List.of("Region", "Heights", "Phases", "Components and contours",
            "Edges", "Wavefronts", "Samples and faces", "Events", "Branches", "Text", "Changes", "In doubt");
    private static final Map<String, List<String>> SECTIONS = read();

    private Doc() {
    }

    /** A heading opens a section; in the description, so does a paragraph that begins with a topic. */
    private static Map<String, List<String>> read() {
        Map<String, List<String>> sections = new LinkedHashMap<>();
        List<String> section = new ArrayList<>();
        for (String line : lines()) {
            String rest = line.strip();
            if (line.startsWith("## ")) {
                section = new ArrayList<>();
                sections.put(line.substring(3).split(":")[0], section);
                continue;
            }
            for (String topic : TOPICS) {
                if (line.startsWith(topic + ". ")) {
                    section = new ArrayList<>();
                    sections.put(topic, section);
                    rest = line.substring(topic.length() + 2);
                }
            }
            if (line.startsWith("Examples: ")) {
                section = new ArrayList<>();
                sections.put("Examples", section);
            }
            if (!rest.isEmpty()) {
                section.add(rest);
            }
        }
        return sections;
    }

    /** Without the document the quotes cannot be compared; what the class answers still can. */
    static boolean isThere() {
        return Files.exists(FILE);
    }

    private static List<String> lines() {
        if (!isThere()) {
            System.out.println("no " + FILE + ": the tests' quotes are not compared with it");
            return List.of();
        }
        try {
            return Files.readAllLines(FILE, StandardCharsets.UTF_8);
        } catch (IOException e) {
            throw new UncheckedIOException(e);
        }
    }

    static List<String> section(String name) {
        return SECTIONS.getOrDefault(name, List.of());
    }

    static boolean says(String section, String words) {
        return !isThere() || String.join(" ", section(section)).contains(words);
    }

    /** What a section says, clause by clause. */
    static List<String> clauses(String section) {
        if (section(section).isEmpty()) {
            return List.of();
        }
        return List.of(String.join(" ", section(section)).split("(?<=\\.) (?=[A-Z])|(?<=;) (?=[a-z])"));
    }

    /** The lines of a promise that name a number, a special case or an exception. */
    static List<String> limits(String promise) {
        List<String> limits = new ArrayList<>();
        for (String line : section(promise)) {
            boolean isSignature = line.startsWith("`");
            if (!isSignature && (line.startsWith("Throws ") || line.matches(".*[0-9].*"))) {
                limits.add(line.startsWith("- ") ? line.substring(2) : line);
            }
        }
        return limits;
    }
}
