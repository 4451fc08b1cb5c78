import java.io.File;
import java.io.IOException;
import java.net.URL;
import java.net.URLClassLoader;
import java.nio.file.Files;
import java.nio.file.Path;
import java.util.List;
import java.util.regex.Matcher;
import java.util.regex.Pattern;
import java.util.stream.Stream;
import javax.tools.ToolProvider;

/** README.md says how to use the class and how to run its tests: its examples answer what it says, and it leaves nothing out. */
public final class ReadmeTest {
    private static final Check C = new Check("ReadmeTest");
    private static final Path README = Path.of("README.md");
    private static final Path DOCUMENT = Path.of("../shared/DOC.md");
    private static final Path TESTS = Path.of("src/test/java");
    /** A line of an example: a statement, and behind it the answer that is due. */
    private static final Pattern ANSWERED = Pattern.compile("^(?:(?:int|long|boolean) (\\w+) = )?(.*);\\s+// (-?\\d+|true|false)\\b.*$");

    public static void main(String[] args) throws IOException, ReflectiveOperationException {
        String readme = Files.readString(README);
        examples(readme);
        calls(readme, Files.readString(DOCUMENT));
        statuses(readme);
        tests(readme);
        C.end();
    }

    /** All examples are one program, each going on where the one before it ended. */
    private static void examples(String readme) throws IOException, ReflectiveOperationException {
        StringBuilder body = new StringBuilder();
        int answers = 0;
        Matcher block = Pattern.compile("(?s)```java\n(.*?)```").matcher(readme);
        while (block.find()) {
            for (String line : block.group(1).split("\n")) {
                Matcher answered = ANSWERED.matcher(line);
                answers += answered.matches() ? 1 : 0;
                body.append(answered.matches() ? checked(answered) : line).append('\n');
            }
        }
        C.holds("the examples have answers", answers > 20);
        for (String wrong : played(body.toString())) {
            C.holds(wrong, false);
        }
    }

    private static String checked(Matcher line) {
        String call = line.group(2);
        String due = line.group(3);
        String want = due.matches("-?\\d+") ? due + "L" : due;
        String made = line.group(1) == null ? "" : "var " + line.group(1) + " = " + call + ";\n";
        String got = line.group(1) == null ? call : line.group(1);
        return made + "due(\"" + call + "\", String.valueOf(" + got + "), String.valueOf(" + want + "));";
    }

    /** What the examples answer otherwise than the page says. */
    private static List<String> played(String body) throws IOException, ReflectiveOperationException {
        Path folder = Files.createTempDirectory("readme");
        Path file = folder.resolve("Examples.java");
        Files.writeString(file, "public class Examples {\n"
            + "public static final java.util.List<String> WRONG = new java.util.ArrayList<>();\n"
            + "static void due(String call, String got, String want) {\n"
            + "if (!got.equals(want)) WRONG.add(call + \" answered \" + got + \", README.md says \" + want);\n}\n"
            + "public static void run() {\n" + body + "}\n}\n");
        try {
            int failed = ToolProvider.getSystemJavaCompiler().run(null, null, null,
                "-cp", System.getProperty("java.class.path"), "-d", folder.toString(), file.toString());
            C.due("the examples compile", failed, 0);
            return failed == 0 ? run(folder) : List.of();
        } finally {
            for (File left : folder.toFile().listFiles()) {
                left.delete();
            }
            Files.delete(folder);
        }
    }

    private static List<String> run(Path folder) throws IOException, ReflectiveOperationException {
        try (URLClassLoader loader = new URLClassLoader(new URL[] {folder.toUri().toURL()})) {
            Class<?> examples = loader.loadClass("Examples");
            examples.getMethod("run").invoke(null);
            return ((List<?>) examples.getField("WRONG").get(null)).stream().map(String::valueOf).toList();
        }
    }

    /** Every call of the document's face, by its name and what it is given. */
    private static void calls(String readme, String document) {
        Matcher call = Pattern.compile("^    public \\w+ (\\w+)\\((.*)\\);$", Pattern.MULTILINE).matcher(document);
        int calls = 0;
        while (call.find()) {
            calls++;
            String shown = "`" + call.group(1) + "(" + call.group(2).replaceAll("\\w+ (\\w+)", "$1") + ")`";
            C.holds("README.md shows " + shown, readme.contains(shown));
        }
        C.due("calls of the face", calls, 37);
    }

    private static void statuses(String readme) {
        for (int status = 0; status <= 7; status++) {
            C.holds("README.md tells status " + status, readme.contains("\n| " + status + " | "));
        }
    }

    private static void tests(String readme) throws IOException {
        C.holds("README.md tells how to run the tests", readme.contains("\n    .ci/run\n") && Files.isExecutable(Path.of(".ci/run")));
        C.holds("README.md names the tests of the document", readme.contains("`../shared/tests`"));
        try (Stream<Path> files = Files.list(TESTS)) {
            for (Path file : files.sorted().toList()) {
                String name = file.getFileName().toString().replace(".java", "");
                C.holds("README.md names " + name, !name.endsWith("Test") || readme.contains("- `" + name + "`: "));
            }
        }
    }
}
