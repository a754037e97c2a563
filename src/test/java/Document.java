import java.io.IOException;
import java.nio.file.Files;
import java.nio.file.Path;

/** The document, so that no test is held against words that do not stand there. */
final class Document {
    private static final Path PLACE = Path.of("../shared/DOC.md");
    private static final String TEXT = read();

    private Document() {
    }

    /** Empty where the document is not at hand: the class can be tested without it. */
    private static String read() {
        try {
            return Files.exists(PLACE) ? Files.readString(PLACE) : "";
        } catch (IOException e) {
            return "";
        }
    }

    /** The section is "Terms" or "Promise" and its number. */
    static void mustSay(Check check, String section, String words) {
        if (!TEXT.isEmpty()) {
            check.is("the document says in " + section + ": " + words, textOf(section).contains(words), true);
        }
    }

    private static String textOf(String section) {
        String head = "\n## " + section + (section.equals("Terms") ? "\n" : ":");
        int start = TEXT.indexOf(head);
        if (start < 0) {
            return "";
        }
        int end = TEXT.indexOf("\n## ", start + head.length());
        return end < 0 ? TEXT.substring(start) : TEXT.substring(start, end);
    }
}
