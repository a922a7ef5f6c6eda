import java.io.IOException;
import java.nio.file.DirectoryStream;
import java.nio.file.Files;
import java.nio.file.Path;
import java.util.ArrayList;
import java.util.Arrays;
import java.util.List;
import java.util.TreeMap;
import java.util.regex.Matcher;
import java.util.regex.Pattern;

/** Every word of the terms and of the promises is named by some test as what it is of. */
public final class SentencesTest {
    private static final Pattern NAMED = Pattern.compile(
        "check\\.of\\((\\d+),\\s*((?:\"[^\"]*\"|RULE)(?:\\s*\\+\\s*\"[^\"]*\")*)\\)");
    private static final Pattern RULE = Pattern.compile("String RULE = (\"[^\"]*\"(?:\\s*\\+\\s*\"[^\"]*\")*);");
    private static final Pattern PART = Pattern.compile("\"([^\"]*)\"");
    /** What is no sentence: marks of a part, and what the interface says ahead of some calls. */
    private static final Pattern NO_SENTENCE = Pattern.compile(
        "Fines for echoes: .*? images to go on from\\.|=+ \\d|Ahead of the calls .*? says: ---- [a-z, ]*\\."
            + "|what later calls answer is free\\.");
    private static final Path TESTS = Path.of(System.getProperty("echofines.tests", "src/test/java"));
    private static final Check check = new Check();

    public static void main(String[] args) throws IOException {
        if (!Document.isThere()) {
            System.out.println("the document is not there: which sentences have tests was not looked at");
            return;
        }
        TreeMap<Integer, boolean[]> covered = new TreeMap<>();
        for (int promise = 1; promise <= Document.PROMISES; promise++) {
            check.holds("promise " + promise + " stands in the document", !Document.ofPromise(promise).isEmpty());
            covered.put(promise, new boolean[Document.ofPromise(promise).length()]);
        }
        boolean[] terms = new boolean[Document.ofTerms().length()];
        Matcher none = NO_SENTENCE.matcher(Document.ofTerms());
        while (none.find()) Arrays.fill(terms, none.start(), none.end(), true);
        for (String source : sources()) mark(source, covered, terms);
        for (int promise = 1; promise <= Document.PROMISES; promise++) {
            allCovered("promise " + promise, Document.ofPromise(promise), covered.get(promise));
        }
        allCovered("the terms", Document.ofTerms(), terms);
        check.end();
    }

    private static List<String> sources() throws IOException {
        List<String> sources = new ArrayList<>();
        try (DirectoryStream<Path> files = Files.newDirectoryStream(TESTS, "*Test.java")) {
            for (Path file : files) sources.add(Files.readString(file));
        }
        return sources;
    }

    private static String joined(String literals) {
        StringBuilder words = new StringBuilder();
        Matcher part = PART.matcher(literals);
        while (part.find()) words.append(part.group(1));
        return Document.plain(words.toString());
    }

    private static void mark(String source, TreeMap<Integer, boolean[]> covered, boolean[] terms) {
        Matcher rule = RULE.matcher(source);
        String ruleWords = rule.find() ? joined(rule.group(1)) : "";
        Matcher named = NAMED.matcher(source);
        while (named.find()) {
            int promise = Integer.parseInt(named.group(1));
            String words = named.group(2).startsWith("RULE") ? ruleWords : joined(named.group(2));
            check.holds("the document has a promise " + promise, covered.containsKey(promise));
            if (words.isEmpty() || !covered.containsKey(promise)) continue;
            if (!markIn(Document.ofPromise(promise), words, covered.get(promise))) markIn(Document.ofTerms(), words, terms);
        }
    }

    private static boolean markIn(String all, String words, boolean[] covered) {
        boolean found = false;
        for (int at = all.indexOf(words); at >= 0; at = all.indexOf(words, at + 1)) {
            Arrays.fill(covered, at, at + words.length(), true);
            found = true;
        }
        return found;
    }

    private static void allCovered(String where, String words, boolean[] covered) {
        for (int at = 0; at < words.length(); at++) {
            if (covered[at] || !Character.isLetterOrDigit(words.charAt(at))) continue;
            int end = at;
            while (end < words.length() && !covered[end]) end++;
            check.holds(where + ": a test is of \"" + words.substring(at, end) + "\"", false);
            at = end;
        }
        check.holds(where + " was looked at", true);
    }
}
