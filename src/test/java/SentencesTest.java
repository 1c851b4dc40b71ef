import java.io.IOException;
import java.nio.file.Files;
import java.nio.file.Path;
import java.util.ArrayList;
import java.util.List;
import java.util.Map;
import java.util.TreeMap;
import java.util.regex.Matcher;
import java.util.regex.Pattern;
import java.util.stream.Stream;

/**
 * Reads the document: each sentence that a test is told to be for must stand there, and no word of the
 * terms or of a promise may be without a test.
 */
public final class SentencesTest {
    private static final Due due = new Due();
    private static final Path DOCUMENT = Path.of("../shared/DOC.md");
    private static final Pattern TOLD = Pattern.compile(
        "due\\.sentence\\(\\s*\"([^\"]*)\",\\s*((?:\"[^\"]*\"[\\s+]*)+)\\)");

    private static final class Section {
        final String words;
        final boolean[] hasTest;

        Section(String words) {
            this.words = words;
            hasTest = new boolean[words.length()];
        }
    }

    public static void main(String[] args) throws IOException {
        if (!Files.exists(DOCUMENT)) {
            System.out.println("no " + DOCUMENT + " here: not checked");
            return;
        }
        Map<String, Section> sections = sections(Files.readString(DOCUMENT));
        due.is("sections, what it is, the terms and 15 promises", sections.size(), 17);
        for (Path file : tests()) {
            Matcher found = TOLD.matcher(Files.readString(file));
            while (found.find()) {
                String words = found.group(2).replaceAll("\"[\\s+]*\"", "").replaceAll("\"\\s*", "");
                mark(sections.get(found.group(1)), found.group(1), words);
            }
        }
        for (Map.Entry<String, Section> section : sections.entrySet()) {
            if (!section.getKey().equals("What it is")) {
                String left = withoutTest(section.getValue());
                due.holds(section.getKey() + ": '" + left + "' has a test", left.isEmpty());
            }
        }
        due.finish();
    }

    private static List<Path> tests() throws IOException {
        List<Path> files = new ArrayList<>();
        try (Stream<Path> all = Files.list(Path.of("src/test/java"))) {
            all.filter(path -> path.toString().endsWith("EdgesTest.java")).forEach(files::add);
        }
        return files;
    }

    /** The sections' texts by name, without signatures, fences and breaks of lines. */
    private static Map<String, Section> sections(String text) {
        Map<String, Section> sections = new TreeMap<>();
        for (String section : text.split("(?m)^## ")) {
            String name = section.lines().findFirst().orElse("").replaceAll(":.*", "");
            if (name.equals("Terms") || name.equals("What it is") || name.startsWith("Promise ")) {
                sections.put(name, new Section(section.replaceFirst(".*\\n", "")
                    .replaceAll("(?m)^```.*$", "").replaceAll("`[^`]*`:", "")
                    .replaceAll("\\s+", " ").trim()));
            }
        }
        return sections;
    }

    private static void mark(Section section, String name, String words) {
        int at = section == null ? -1 : section.words.indexOf(words);
        due.holds("the document says '" + words + "' in " + name, at >= 0);
        for (int i = at; at >= 0 && i < at + words.length(); i++) {
            section.hasTest[i] = true;
        }
    }

    private static String withoutTest(Section section) {
        StringBuilder left = new StringBuilder();
        for (int i = 0; i < section.hasTest.length; i++) {
            left.append(section.hasTest[i] ? ' ' : section.words.charAt(i));
        }
        // What joins two sentences is no sentence.
        return left.toString().replaceAll("[\\s,;.:()]+", " ").trim();
    }
}
