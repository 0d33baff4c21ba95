import java.io.File;
import java.io.IOException;
import java.lang.reflect.Method;
import java.lang.reflect.Modifier;
import java.nio.file.Files;
import java.nio.file.Path;
import java.util.ArrayList;
import java.util.List;
import java.util.Set;
import java.util.TreeSet;
import java.util.regex.Matcher;
import java.util.regex.Pattern;
import java.util.stream.Stream;
import javax.tools.ToolProvider;

/** What README.md says: its example is compiled and run, and what it names is looked up. */
public final class ReadmeTest extends CallTest {
    private static final Path README = Path.of("README.md");
    private static final Path TESTS = Path.of("src/test/java");
    private static final Pattern BLOCK = Pattern.compile("(?s)```java\n(.*?)```");
    private static final Pattern CALL = Pattern.compile("(?:int (\\w+) = )?(x\\.\\w+\\([^)]*\\)); +// ([^:]+)(?:: .+)?");
    private static final String MADE = "JoinedLeaves x = new JoinedLeaves();";

    public static void main(String[] args) throws IOException, InterruptedException {
        String readme = Files.readString(README);
        List<String> example = exampleOf(readme);
        everyCallIsShownAndNamed(readme, example);
        everyTestIsNamed(readme);
        testsRunAsItSays(readme);
        whatItNamesIsThere(readme);
        runAsItStands(example);
        end("README.md is as it says");
    }

    /** The lines of all blocks of Java together, as the later ones go on where the first ends. */
    private static List<String> exampleOf(String readme) {
        List<String> lines = new ArrayList<>();
        Matcher block = BLOCK.matcher(readme);
        while (block.find()) {
            block.group(1).lines().filter(line -> !line.isBlank()).forEach(lines::add);
        }
        return lines;
    }

    private static Set<String> callsOfTheFace() {
        Set<String> names = new TreeSet<>();
        for (Method method : JoinedLeaves.class.getDeclaredMethods()) {
            if (Modifier.isPublic(method.getModifiers())) {
                names.add(method.getName());
            }
        }
        return names;
    }

    private static void everyCallIsShownAndNamed(String readme, List<String> example) {
        String shown = String.join("\n", example);
        for (String name : callsOfTheFace()) {
            due("the example shows " + name, true, () -> shown.contains("x." + name + "("));
            due("the table names " + name, true, () -> readme.contains("\n| `" + name + "("));
        }
    }

    private static void everyTestIsNamed(String readme) throws IOException {
        Set<String> there = new TreeSet<>();
        try (Stream<Path> files = Files.list(TESTS)) {
            files.forEach(file -> there.add(file.getFileName().toString().replace(".java", "")));
        }
        Set<String> named = new TreeSet<>();
        Matcher name = Pattern.compile("`(\\w+Test)`").matcher(readme);
        while (name.find()) {
            named.add(name.group(1));
        }
        due("the tests that it names", there, () -> named);
    }

    private static void testsRunAsItSays(String readme) {
        due("it says how to run the tests", true, () -> readme.contains("```\n.ci/run\n```"));
        due(".ci/run can be run", true, () -> Files.isExecutable(Path.of(".ci/run")));
    }

    private static void whatItNamesIsThere(String readme) {
        Matcher path = Pattern.compile("`((?:src|\\.\\./shared)/[^` ]*)`").matcher(readme);
        int count = 0;
        while (path.find()) {
            Path named = Path.of(path.group(1));
            due(named + " is there", true, () -> Files.exists(named));
            count++;
        }
        boolean isAny = count > 0;
        due("it names its files", true, () -> isAny);
    }

    private static void runAsItStands(List<String> example) throws IOException, InterruptedException {
        Path folder = Files.createTempDirectory("readme");
        Path source = folder.resolve("ReadmeExample.java");
        Path compiled = folder.resolve("ReadmeExample.class");
        String classes = folder + File.pathSeparator + System.getProperty("java.class.path");
        Files.writeString(source, programOf(example));
        int refused = ToolProvider.getSystemJavaCompiler().run(null, null, null,
                "-proc:none", "-cp", classes, "-d", folder.toString(), source.toString());
        due("compiling the example", 0, () -> refused);
        String java = Path.of(System.getProperty("java.home"), "bin", "java").toString();
        int exit = new ProcessBuilder(java, "-cp", classes, "ReadmeExample").inheritIO().start().waitFor();
        due("running the example", 0, () -> exit);
        for (Path file : List.of(source, compiled, folder)) {
            Files.deleteIfExists(file);
        }
    }

    /** A program with the example twice: as it stands, and with each answer looked at. */
    private static String programOf(List<String> example) {
        List<String> checked = new ArrayList<>();
        for (String line : example) {
            checked.add(checkedLineOf(line));
        }
        return "final class ReadmeExample extends CallTest {\n"
                + "static void asItStands() {\n" + String.join("\n", example) + "\n}\n"
                + "public static void main(String[] args) {\n" + String.join("\n", checked)
                + "\nend(\"the example answers what README.md says\");\n}\n}\n";
    }

    private static String checkedLineOf(String line) {
        Matcher call = CALL.matcher(line);
        if (!call.matches()) {
            due("a line of the example without an answer behind it", MADE, () -> line);
            return line;
        }
        String made = call.group(1);
        String answer = call.group(3).replace("throws ", "throws.");
        String first = made == null ? "" : line.substring(0, line.indexOf("//"));
        String asked = made == null ? call.group(2) : made;
        return first + "due(\"" + call.group(2) + "\", \"" + answer + "\", () -> " + asked + ");";
    }
}
