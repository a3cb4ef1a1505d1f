import java.io.ByteArrayOutputStream;
import java.io.IOException;
import java.io.PrintStream;
import java.lang.reflect.Method;
import java.lang.reflect.Modifier;
import java.net.URL;
import java.net.URLClassLoader;
import java.nio.file.Files;
import java.nio.file.Path;
import java.util.ArrayList;
import java.util.List;
import java.util.TreeSet;
import java.util.regex.Matcher;
import java.util.regex.Pattern;
import java.util.stream.Stream;
import javax.tools.ToolProvider;

/** README.md: its example is compiled and run, and its tables name all calls and all tests. */
public final class ReadmeTest {

    private static final Pattern EXAMPLE = Pattern.compile("```java\n(.*?)```", Pattern.DOTALL);
    private static final Pattern PRINTS = Pattern.compile("System\\.out\\.println\\(.*\\); +// ([^:\n]+)");
    private static final Pattern TEST_ROW = Pattern.compile("\\| `(\\w+Test)` \\|");
    private static final Path CLASSES = Path.of("build/readme");

    private static final Checks CHECKS = new Checks();

    public static void main(String[] args) throws Exception {
        String readme = Files.readString(Path.of("README.md"));
        exampleAnswersAsItSays(readme);
        allCallsAreNamed(readme);
        allTestsAreNamed(readme);
        CHECKS.end();
    }

    private static void exampleAnswersAsItSays(String readme) throws Exception {
        Matcher example = EXAMPLE.matcher(readme);
        CHECKS.due("an example", example.find(), true);
        String program = example.group(1);
        List<String> told = new ArrayList<>();
        for (Matcher prints = PRINTS.matcher(program); prints.find(); ) {
            told.add(prints.group(1).strip());
        }
        CHECKS.due("rows that print, each with its answer", told.size(), program.split("println", -1).length - 1);
        CHECKS.dueText("the example", printedBy(program), String.join("\n", told) + "\n");
    }

    private static String printedBy(String program) throws Exception {
        Files.createDirectories(CLASSES);
        Path source = Files.writeString(CLASSES.resolve("Evening.java"), program);
        int faults = ToolProvider.getSystemJavaCompiler().run(null, null, null, "--release", "17",
                "-cp", System.getProperty("java.class.path"), "-d", CLASSES.toString(), source.toString());
        CHECKS.due("the compiler", faults, 0);
        PrintStream screen = System.out;
        ByteArrayOutputStream printed = new ByteArrayOutputStream();
        try (URLClassLoader loader = new URLClassLoader(new URL[] {CLASSES.toUri().toURL()})) {
            System.setOut(new PrintStream(printed, true));
            loader.loadClass("Evening").getMethod("main", String[].class).invoke(null, (Object) new String[0]);
        } finally {
            System.setOut(screen);
        }
        return printed.toString().replace("\r\n", "\n");
    }

    private static void allCallsAreNamed(String readme) {
        for (Method call : RehearsalRoom.class.getDeclaredMethods()) {
            if (Modifier.isPublic(call.getModifiers())) {
                CHECKS.due("README.md names " + call.getName(), readme.contains("`" + call.getName() + "`"), true);
            }
        }
    }

    private static void allTestsAreNamed(String readme) throws IOException {
        TreeSet<String> named = new TreeSet<>();
        for (Matcher row = TEST_ROW.matcher(readme); row.find(); ) {
            named.add(row.group(1));
        }
        TreeSet<String> there = new TreeSet<>();
        try (Stream<Path> files = Files.list(Path.of("src/test/java"))) {
            files.map(file -> file.getFileName().toString()).filter(name -> name.endsWith("Test.java"))
                    .forEach(name -> there.add(name.replace(".java", "")));
        }
        CHECKS.dueText("tests that README.md names", named.toString(), there.toString());
    }
}
