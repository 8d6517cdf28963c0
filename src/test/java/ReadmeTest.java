import java.io.ByteArrayOutputStream;
import java.io.IOException;
import java.lang.reflect.Field;
import java.lang.reflect.Method;
import java.lang.reflect.Modifier;
import java.net.URL;
import java.net.URLClassLoader;
import java.nio.file.Files;
import java.nio.file.Path;
import java.util.regex.Matcher;
import java.util.regex.Pattern;
import java.util.stream.Collectors;
import java.util.stream.Stream;
import javax.tools.ToolProvider;

/**
 * What README.md says of the class: its example is compiled as it stands and must give the answers that are written behind
 * its calls; all calls, constants and tests must be named. Runs in the project's folder.
 */
public final class ReadmeTest {
    private static final Pattern EXAMPLE = Pattern.compile("```java\n(.*?)```", Pattern.DOTALL);
    private static final Pattern ANSWERED = Pattern.compile("(?m)^(cap\\.[^;]*); +// ([-\\w]+).*$");
    private static final String CONSTANT = "BAD|STATE|FULL|NONE|NO|NOT";

    private static int checked = 0;
    private static int wrong = 0;

    private ReadmeTest() { }

    public static void main(String[] args) throws Exception {
        String readme = Files.readString(Path.of("README.md"));
        callsAreNamed(readme);
        constantsAreNamed(readme);
        testsAreNamed(readme);
        exampleHolds(readme);
        System.out.println(checked + " things that README.md says, " + wrong + " not so");
        if (wrong != 0) {
            System.exit(1);
        }
    }

    private static void holds(boolean so, String what) {
        checked++;
        if (!so) {
            wrong++;
            System.out.println("README.md: " + what);
        }
    }

    /** The example calls it, by this name. */
    public static void due(String call, long got, long want) {
        holds(got == want, call + " answered " + got + ", written is " + want);
    }

    private static void callsAreNamed(String readme) {
        for (Method m : PileShares.class.getDeclaredMethods()) {
            if (Modifier.isPublic(m.getModifiers())) {
                holds(readme.contains("`" + m.getName() + "`"), "does not name " + m.getName());
            }
        }
    }

    private static void constantsAreNamed(String readme) throws IllegalAccessException {
        for (Field f : PileShares.class.getDeclaredFields()) {
            if (Modifier.isPublic(f.getModifiers())) {
                String row = "| `" + f.getName() + "` | " + ((Number) f.get(null)).longValue() + " |";
                holds(readme.contains(row), "does not say " + row);
            }
        }
    }

    private static void testsAreNamed(String readme) throws IOException {
        try (Stream<Path> files = Files.list(Path.of("src/test/java"))) {
            for (Path file : files.collect(Collectors.toList())) {
                String name = file.getFileName().toString().replace(".java", "");
                holds(!name.endsWith("Test") || readme.contains("`" + name + "`"), "does not name " + name);
            }
        }
        holds(readme.contains(".ci/run"), "does not say how the tests are run");
    }

    private static void exampleHolds(String readme) throws Exception {
        Matcher example = EXAMPLE.matcher(readme);
        if (!example.find()) {
            holds(false, "has no example");
            return;
        }
        Matcher rows = ANSWERED.matcher(example.group(1));
        String body = rows.replaceAll(row -> "ReadmeTest.due(\"" + row.group(1) + "\", " + row.group(1) + ", "
                + (row.group(2).matches(CONSTANT) ? "PileShares." : "") + row.group(2) + ");");
        int before = checked;
        runExample("public final class Example { public static void run() {\n" + body + "} }\n");
        holds(checked - before > 10, "has an example with few answers");
    }

    private static void runExample(String source) throws Exception {
        Path folder = Files.createTempDirectory("readme");
        Path file = Files.writeString(folder.resolve("Example.java"), source);
        ByteArrayOutputStream said = new ByteArrayOutputStream();
        int failed = ToolProvider.getSystemJavaCompiler().run(null, said, said, "-cp",
                System.getProperty("java.class.path"), "-d", folder.toString(), file.toString());
        holds(failed == 0, "the example does not compile: " + said);
        if (failed == 0) {
            try (URLClassLoader loader = new URLClassLoader(new URL[] {folder.toUri().toURL()})) {
                loader.loadClass("Example").getMethod("run").invoke(null);
            }
            Files.delete(folder.resolve("Example.class"));
        }
        Files.delete(file);
        Files.delete(folder);
    }
}
