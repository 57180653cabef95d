import java.io.IOException;
import java.nio.file.Files;
import java.nio.file.Path;
import java.util.Map;
import java.util.TreeMap;

/** The sentences of ../shared/DOC.md, part by part, so that each test can quote the one that it is for. */
final class Document {
    private static final String QUOTED = " | ";

    /** What has not been quoted yet, by the part's name: Terms, or Promise n. */
    private final Map<String, String> parts = new TreeMap<>();

    Document(Path path) throws IOException {
        if (!Files.isReadable(path)) {
            System.out.println(path + " is not there: the quotes are not compared with it");
            return;
        }
        for (String section : Files.readString(path).split("(?m)^## ")) {
            String title = section.lines().findFirst().orElse("").replaceFirst(":.*", "");
            if (title.equals("Terms") || title.startsWith("Promise ")) {
                parts.put(title, plain(section.substring(section.indexOf('\n') + 1)));
            }
        }
    }

    /** Without the signature, which FaceTest is for, without marks, and with one blank between words. */
    private static String plain(String text) {
        return text.replaceFirst("^\\s*`[^`]*`: ", "").replaceAll("```(text)?|`", "")
                .replaceAll("(?m)^- ", "").replaceAll("\\s+", " ").strip();
    }

    /** Marks the sentence as quoted; false if the part does not say it, or not once more. */
    boolean says(String part, String sentence) {
        if (parts.isEmpty()) {
            return true;
        }
        String rest = parts.getOrDefault(part, "");
        int at = rest.indexOf(sentence);
        if (at < 0) {
            return false;
        }
        parts.put(part, rest.substring(0, at) + QUOTED + rest.substring(at + sentence.length()));
        return true;
    }

    /** The parts with a sentence that was not quoted. */
    Map<String, String> notQuoted() {
        Map<String, String> left = new TreeMap<>();
        parts.forEach((part, rest) -> {
            if (rest.chars().anyMatch(Character::isLetterOrDigit)) {
                left.put(part, rest.replaceAll("(\\s*\\|\\s*)+", QUOTED).strip());
            }
        });
        return left;
    }
}
