import java.net.URL;
import java.net.URLClassLoader;
import java.nio.file.DirectoryStream;
import java.nio.file.Files;
import java.nio.file.Path;
import java.util.ArrayList;
import java.util.List;
import java.util.Set;
import java.util.TreeSet;
import java.util.regex.Matcher;
import java.util.regex.Pattern;
import javax.tools.JavaCompiler;
import javax.tools.ToolProvider;

/**
 * README.md: its Java is put together as it stands, compiled and run, and each call is held against the answer that is
 * written behind it; and its table names the tests that there are.
 */
public final class ReadmeTest {
    private static final Check C = new Check("ReadmeTest");
    private static final Path PAGE = Path.of("README.md");
    private static final Path TESTS = Path.of("src/test/java");
    private static final Pattern BLOCK = Pattern.compile("(?s)```java\n(.*?)```");
    private static final Pattern SHOWN = Pattern.compile("(lake\\.\\w+\\(.*?\\)); *// (-?\\d+)(:.*)?");
    private static final Pattern CALL_ALONE = Pattern.compile("lake\\.\\w+\\(.*");
    private static final Pattern ROW_OF_TABLE = Pattern.compile("(?m)^\\| `(\\w+Test)` \\|");

    public static void main(String[] args) throws Exception {
        String page = Files.readString(PAGE);
        allTestsAreNamed(page);
        callsAnswerAsItSays(page);
        C.done();
    }

    private static void allTestsAreNamed(String page) throws Exception {
        Set<String> named = new TreeSet<>();
        Matcher row = ROW_OF_TABLE.matcher(page);
        while (row.find()) {
            named.add(row.group(1));
        }
        Set<String> there = new TreeSet<>();
        try (DirectoryStream<Path> files = Files.newDirectoryStream(TESTS, "*Test.java")) {
            for (Path file : files) {
                there.add(file.getFileName().toString().replace(".java", ""));
            }
        }
        C.due("README.md names " + named + ", and there are " + there, named.equals(there) ? 1 : 0, 1);
    }

    private static void callsAnswerAsItSays(String page) throws Exception {
        StringBuilder helpers = new StringBuilder();
        StringBuilder steps = new StringBuilder();
        int shown = 0;
        Matcher block = BLOCK.matcher(page);
        while (block.find()) {
            if (block.group(1).startsWith("static ")) {
                helpers.append(block.group(1));
            } else {
                for (String line : block.group(1).split("\n")) {
                    steps.append(step(line)).append('\n');
                    shown += SHOWN.matcher(line).matches() ? 1 : 0;
                }
            }
        }
        List<Object[]> answers = run(helpers.toString(), steps.toString());
        C.due("how many calls of README.md were made", answers.size(), shown);
        C.due("README.md shows calls", shown > 0 ? 1 : 0, 1);
        for (Object[] answer : answers) {
            C.due("README.md: " + answer[0], (Integer) answer[1], (Integer) answer[2]);
        }
    }

    /** A call that stands for itself has its answer behind it; all other lines stay as they are. */
    private static String step(String line) {
        Matcher shown = SHOWN.matcher(line);
        if (shown.matches()) {
            String call = shown.group(1);
            return "made.add(new Object[] {\"" + call.replace("\"", "\\\"") + "\", " + call + ", " + shown.group(2) + "});";
        }
        C.due("in README.md an answer stands behind " + line, CALL_ALONE.matcher(line).matches() ? 0 : 1, 1);
        return line;
    }

    /** Of each call its text, its answer and the answer that is due. */
    private static List<Object[]> run(String helpers, String steps) throws Exception {
        String text = "import java.util.List;\npublic final class ReadmeCalls {\n" + helpers
            + "public static void run(List<Object[]> made) {\n" + steps + "}\n}\n";
        Path where = Files.createTempDirectory("readme");
        Path source = where.resolve("ReadmeCalls.java");
        Files.writeString(source, text);
        List<Object[]> made = new ArrayList<>();
        if (compiles(source, where)) {
            try (URLClassLoader loader = new URLClassLoader(new URL[] {where.toUri().toURL()})) {
                loader.loadClass("ReadmeCalls").getMethod("run", List.class).invoke(null, made);
            }
        }
        try (DirectoryStream<Path> files = Files.newDirectoryStream(where)) {
            for (Path file : files) {
                Files.delete(file);
            }
        }
        Files.delete(where);
        return made;
    }

    private static boolean compiles(Path source, Path where) {
        JavaCompiler javac = ToolProvider.getSystemJavaCompiler();
        int code = javac == null ? 1 : javac.run(null, null, null, "-Xlint:all", "-Werror", "-cp",
            System.getProperty("java.class.path"), "-d", where.toString(), source.toString());
        C.due("the Java of README.md is compiled", code, 0);
        return code == 0;
    }
}
