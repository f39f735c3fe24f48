import java.io.File;
import java.io.IOException;
import java.lang.reflect.Method;
import java.lang.reflect.Modifier;
import java.nio.charset.StandardCharsets;
import java.nio.file.Files;
import java.nio.file.Path;
import java.util.ArrayList;
import java.util.List;
import java.util.TreeSet;
import java.util.regex.Matcher;
import java.util.regex.Pattern;
import java.util.stream.Stream;

/** README.md: its example compiles as it stands and prints what it says, its tables name each call and each test. */
final class ReadmeTest {
    private static final Path README = Path.of("README.md");
    private static final Path TESTS = Path.of("src/test/java");

    private ReadmeTest() {
    }

    public static void main(String[] args) throws Exception {
        String readme = Files.readString(README);
        example(readme);
        lines(readme);
        calls(readme);
        tests(readme);
        Check.end();
    }

    private static void example(String readme) throws IOException, InterruptedException {
        Matcher block = Pattern.compile("```java\n(.*?)```", Pattern.DOTALL).matcher(readme);
        Check.due("README has an example", block.find(), true);
        String source = block.group(1);
        List<String> due = new ArrayList<>();
        Matcher shown = Pattern.compile("show\\(.*\\); *// ([^:\n]*)").matcher(source);
        while (shown.find()) {
            due.add(shown.group(1).trim());
        }
        Check.due("calls whose answer README tells", due.size() >= 20, true);
        List<String> got = List.of(printed(source).split("\n"));
        Check.due("lines that the example prints", got.size(), due.size());
        for (int i = 0; i < due.size() && i < got.size(); i++) {
            Check.due("line " + i + " of the example: " + got.get(i) + ", README says " + due.get(i), got.get(i).equals(due.get(i)),
                true);
        }
    }

    /** What the example prints when it is compiled and run by itself. */
    private static String printed(String source) throws IOException, InterruptedException {
        Path folder = Files.createTempDirectory("readme");
        Path file = folder.resolve("Example.java");
        Files.writeString(file, source);
        String classes = System.getProperty("java.class.path");
        Process javac = new ProcessBuilder("javac", "-cp", classes, "-d", folder.toString(), file.toString()).inheritIO().start();
        Check.due("the example compiles", javac.waitFor(), 0);
        Process java = new ProcessBuilder("java", "-cp", folder + File.pathSeparator + classes, "Example")
            .redirectErrorStream(true).start();
        String printed = new String(java.getInputStream().readAllBytes(), StandardCharsets.UTF_8);
        Check.due("the example runs", java.waitFor(), 0);
        delete(folder);
        return printed.replace("\r", "").trim();
    }

    private static void delete(Path folder) throws IOException {
        try (Stream<Path> files = Files.list(folder)) {
            for (Path file : files.toList()) {
                Files.delete(file);
            }
        }
        Files.delete(folder);
    }

    /** The LINES of the table, one behind another, are a TEXT. */
    private static void lines(String readme) {
        StringBuilder text = new StringBuilder();
        int lines = 0;
        Matcher row = Pattern.compile("^\\| `([a-z]+ [^`]*)` \\| [^|]* \\| ", Pattern.MULTILINE).matcher(readme);
        while (row.find()) {
            text.append(row.group(1)).append(";\n");
            lines++;
        }
        Check.due("LINES of the table", lines, 11);
        Check.holds(text.toString(), lines);
    }

    private static void calls(String readme) {
        TreeSet<String> told = new TreeSet<>();
        String table = readme.substring(readme.indexOf("| calls |"), readme.indexOf("## What calls answer"));
        Matcher call = Pattern.compile("`(\\w+)`").matcher(table);
        while (call.find()) {
            Check.due("README names once " + call.group(1), told.add(call.group(1)), true);
        }
        TreeSet<String> are = new TreeSet<>();
        for (Method method : BeatParish.class.getDeclaredMethods()) {
            if (Modifier.isPublic(method.getModifiers())) {
                are.add(method.getName());
            }
        }
        Check.due("README names " + told + ", there are " + are, told.equals(are), true);
    }

    private static void tests(String readme) throws IOException {
        TreeSet<String> told = new TreeSet<>();
        Matcher row = Pattern.compile("^\\| (\\w+Test) \\|", Pattern.MULTILINE).matcher(readme);
        while (row.find()) {
            told.add(row.group(1));
        }
        TreeSet<String> are = new TreeSet<>();
        try (Stream<Path> files = Files.list(TESTS)) {
            files.map(file -> file.getFileName().toString()).filter(name -> name.endsWith("Test.java"))
                .forEach(name -> are.add(name.replace(".java", "")));
        }
        Check.due("README names " + told + ", there are " + are, told.equals(are), true);
        Check.due("README tells how all tests are run", readme.contains("\n    bash .ci/run\n"), true);
    }
}
