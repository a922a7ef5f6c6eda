import java.io.IOException;
import java.nio.file.Files;
import java.nio.file.Path;
import java.util.regex.Matcher;
import java.util.regex.Pattern;

/** The document's words, so that a test can say which sentence it is of and be held to that. */
final class Document {
    static final int PROMISES = 27;
    private static final Path FILE = Path.of(System.getProperty("echofines.document", "../shared/DOC.md"));
    private static final String WORDS = read();

    private Document() {
    }

    private static String read() {
        try {
            return Files.exists(FILE) ? Files.readString(FILE) : "";
        } catch (IOException e) {
            return "";
        }
    }

    static boolean isThere() {
        return !WORDS.isEmpty();
    }

    /** The words under a heading, one blank between any two. */
    private static String under(String heading) {
        Matcher m = Pattern.compile("(?ms)^## " + heading + "\\b[^\n]*\n(.*?)(?=^## |\\z)").matcher(WORDS);
        return m.find() ? plain(m.group(1)) : "";
    }

    static String plain(String words) {
        return words.replaceAll("(?m)^```.*$", " ").replaceAll("\\s+", " ").trim();
    }

    /** What a promise says, without the call itself. */
    static String ofPromise(int promise) {
        return under("Promise " + promise + ":?").replaceFirst("^`[^`]*`: ", "");
    }

    /** What stands ahead of the promises: what it is, and the terms. */
    static String ofTerms() {
        return under("What it is") + " " + under("Terms");
    }

    static boolean says(int promise, String words) {
        String sought = plain(words);
        return !sought.isEmpty() && (ofPromise(promise).contains(sought) || ofTerms().contains(sought));
    }
}
