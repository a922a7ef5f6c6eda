import java.io.IOException;
import java.net.URL;
import java.net.URLClassLoader;
import java.nio.file.DirectoryStream;
import java.nio.file.Files;
import java.nio.file.Path;
import java.util.TreeSet;
import java.util.regex.Matcher;
import java.util.regex.Pattern;
import javax.tools.JavaCompiler;
import javax.tools.ToolProvider;

/** README.md is right for the class: its code is compiled and run, and answers what its comments say. */
public final class ReadmeTest {
    private static final Path README = Path.of(System.getProperty("echofines.readme", "README.md"));
    private static final Path TESTS = Path.of(System.getProperty("echofines.tests", "src/test/java"));
    private static final Pattern BLOCK = Pattern.compile("(?ms)^```java\n(.*?)^```$");
    private static final Pattern COMMENTED = Pattern.compile("^(x\\.\\w+\\(.*\\)); +// (.*)$");
    private static final Pattern ANSWER = Pattern.compile("(-?\\d+)(?: \\(([A-Z]+)\\))?(?:: .*)?");
    private static final String[] CONSTANTS = {"NONE", "UNKNOWN", "OUTSIDE", "NOT", "FULL"};
    private static final Check check = new Check();

    public static void main(String[] args) throws Exception {
        String readme = Files.readString(README);
        String code = codeOf(readme);
        for (String name : CONSTANTS) {
            check.holds("an answer " + name + " is shown", code.contains(", EchoFines." + name + ");"));
            check.holds("a row tells what " + name + " means", readme.contains("\n| `" + name + "` | "));
        }
        run(code);
        testsAreNamed(readme);
        classesAreNamed(readme);
        check.end();
    }

    /** The code of README.md calls this, from another class loader. */
    public static void due(String call, long got, long... wanted) {
        for (long want : wanted) check.due("README.md, " + call, got, want);
    }

    /** Its blocks as one class: what is static stands in it, the rest is run in its order. */
    private static String codeOf(String readme) {
        StringBuilder members = new StringBuilder();
        StringBuilder body = new StringBuilder();
        Matcher block = BLOCK.matcher(readme);
        while (block.find()) {
            StringBuilder part = block.group(1).startsWith("static ") ? members : body;
            for (String line : block.group(1).split("\n")) part.append(lineOf(line)).append('\n');
        }
        check.holds("a method and a run of calls are shown", members.length() > 0 && body.length() > 0);
        return "public final class ReadmeCode {\n" + members + "public static void run() {\n" + body + "}\n}\n";
    }

    private static String lineOf(String line) {
        Matcher commented = COMMENTED.matcher(line);
        if (!commented.matches()) return line;
        Matcher answer = ANSWER.matcher(commented.group(2));
        check.holds("a call's comment begins with its answer: " + line, answer.matches());
        if (!answer.matches()) return line;
        String call = commented.group(1);
        boolean isNamed = answer.group(2) != null;
        check.holds("an answer below 0 is named: " + line, isNamed == answer.group(1).startsWith("-"));
        String named = isNamed ? ", EchoFines." + answer.group(2) : "";
        return "ReadmeTest.due(\"" + call.replace("\"", "\\\"") + "\", " + call + ", " + answer.group(1) + named + ");";
    }

    private static void run(String code) throws Exception {
        JavaCompiler compiler = ToolProvider.getSystemJavaCompiler();
        check.holds("there is a compiler", compiler != null);
        if (compiler == null) return;
        Path directory = Files.createTempDirectory("readme");
        Path source = Files.writeString(directory.resolve("ReadmeCode.java"), code);
        int answer = compiler.run(null, null, null, "-cp", System.getProperty("java.class.path"),
            "-d", directory.toString(), source.toString());
        check.due("javac of README.md's code", answer, 0);
        if (answer == 0) {
            try (URLClassLoader loader = new URLClassLoader(new URL[] {directory.toUri().toURL()})) {
                loader.loadClass("ReadmeCode").getMethod("run").invoke(null);
            }
        }
        try (DirectoryStream<Path> made = Files.newDirectoryStream(directory)) {
            for (Path file : made) Files.delete(file);
        }
        Files.delete(directory);
    }

    private static void testsAreNamed(String readme) throws IOException {
        TreeSet<String> there = new TreeSet<>();
        try (DirectoryStream<Path> files = Files.newDirectoryStream(TESTS, "*Test.java")) {
            for (Path file : files) there.add(file.getFileName().toString().replace(".java", ""));
        }
        TreeSet<String> named = new TreeSet<>();
        Matcher name = Pattern.compile("`(\\w+Test)`").matcher(readme);
        while (name.find()) named.add(name.group(1));
        check.holds("the tests that are named " + named + " are those that there are " + there, named.equals(there));
    }

    private static void classesAreNamed(String readme) {
        String made = readme.replaceAll("(?s).*\n## How it is made\n|\n## .*", "");
        for (Class<?> inside : EchoFines.class.getDeclaredClasses()) {
            check.holds(inside.getSimpleName() + " is told of", made.contains("`" + inside.getSimpleName() + "`"));
        }
    }
}
