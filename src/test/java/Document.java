import java.io.IOException;
import java.nio.file.Files;
import java.nio.file.Path;
import java.util.LinkedHashSet;
import java.util.Set;

/** The sentences of the document, each as "heading: sentence". */
final class Document {
    private static final Path FILE = Path.of("../shared/DOC.md");

    private Document() {
    }

    static Set<String> sentences() throws IOException {
        Set<String> found = new LinkedHashSet<>();
        String heading = "";
        boolean fenced = false;
        for (String line : Files.readAllLines(FILE)) {
            if (line.startsWith("```")) {
                fenced = !fenced;
            } else if (!fenced && line.startsWith("#")) {
                heading = line.replaceFirst("^#+ ", "");
            } else if (fenced || line.startsWith("- ")) {
                found.add(named(heading, line.strip()));
            } else {
                // The signature of a method stands ahead of its first sentence.
                String text = heading.startsWith("Promise") ? line.replaceFirst("^`[^`]*`: ", "") : line;
                for (String sentence : text.split("(?<=\\.)\\s+")) {
                    found.add(named(heading, sentence));
                }
            }
        }
        found.removeIf(name -> name.endsWith(": ") || name.startsWith("The public face: "));
        return found;
    }

    static String named(String heading, String sentence) {
        return heading + ": " + sentence;
    }
}
