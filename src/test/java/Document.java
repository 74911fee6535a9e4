import java.io.IOException;
import java.io.UncheckedIOException;
import java.nio.file.Files;
import java.nio.file.Path;
import java.util.List;

/** The document by its parts, so that a test can name the sentence that it stands for. */
final class Document {
    private static final List<String> DESCRIBED = List.of("Memory and instructions", "Dependences", "Packs",
            "Omitted stores", "Acts, slots");
    private static final String TEXT = read();

    private Document() {
    }

    private static String read() {
        try {
            return Files.readString(Path.of("../shared/DOC.md"));
        } catch (IOException e) {
            throw new UncheckedIOException(e);
        }
    }

    /** A part is a heading of the description, "What it is", "The public face" or "Promise" with its number. */
    static boolean says(String part, String words) {
        return folded(section(part)).contains(folded(words));
    }

    private static String section(String part) {
        boolean described = DESCRIBED.contains(part);
        String end = part.startsWith("Promise ") ? ":" : "\n";
        int from = TEXT.indexOf((described ? "\n\n" : "\n## ") + part + end);
        if (from < 0) {
            return "";
        }
        int to = TEXT.indexOf("\n## ", from + 1);
        for (String other : DESCRIBED) {
            int at = described ? TEXT.indexOf("\n\n" + other + "\n", from + 1) : -1;
            to = at >= 0 ? Math.min(at, to) : to;
        }
        return TEXT.substring(from, to);
    }

    private static String folded(String s) {
        return s.replaceAll("\\s+", " ").trim();
    }
}
