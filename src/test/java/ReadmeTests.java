import java.io.ByteArrayOutputStream;
import java.io.IOException;
import java.io.PrintStream;
import java.lang.reflect.Field;
import java.lang.reflect.Method;
import java.lang.reflect.Modifier;
import java.net.URL;
import java.net.URLClassLoader;
import java.nio.charset.StandardCharsets;
import java.nio.file.Files;
import java.nio.file.Path;
import java.util.ArrayList;
import java.util.List;
import java.util.regex.Matcher;
import java.util.regex.Pattern;
import javax.tools.ToolProvider;

// What README.md tells its reader must hold: the example is compiled and run,
// and the answers it shows are compared. It is run from the project's root.
public final class ReadmeTests {
    private static final String LENGTH_OF_USE = "An object is used for at most 512 calls after it has been made";

    private static int wrong = 0;

    private static void must(boolean holds, String what) {
        if (!holds) {
            wrong++;
            System.out.println("README.md: " + what);
        }
    }

    public static void main(String[] args) throws Exception {
        String readme = Files.readString(Path.of("README.md"));
        String oneLine = readme.replaceAll("\\s+", " ");
        must(oneLine.contains(LENGTH_OF_USE), "it does not say: " + LENGTH_OF_USE);
        must(readme.contains("\n    .ci/run\n"), "it does not say how the tests are run");
        must(readme.contains("| `false` |"), "it does not say what false means");
        names(readme);
        example(readme);
        System.out.println(wrong == 0 ? "README.md holds" : wrong + " things in README.md do not hold");
        if (wrong != 0) {
            System.exit(1);
        }
    }

    private static void names(String readme) throws IllegalAccessException, IOException {
        for (Method m : TupleSpace.class.getDeclaredMethods()) {
            if (Modifier.isPublic(m.getModifiers())) {
                must(readme.contains("\n| `" + m.getName() + "("), "it does not name " + m.getName());
            }
        }
        for (Field f : TupleSpace.class.getDeclaredFields()) {
            if (Modifier.isPublic(f.getModifiers())) {
                String row = "\n| `" + f.getName() + "` | " + f.getInt(null) + " |";
                must(readme.contains(row), "it does not tell " + f.getName() + " and its number");
            }
        }
        try (var tests = Files.newDirectoryStream(Path.of("src/test/java"), "*.java")) {
            for (Path test : tests) {
                String name = test.getFileName().toString().replace(".java", "");
                must(readme.contains("- `" + name + "` "), "it does not name the test " + name);
            }
        }
    }

    private static void example(String readme) throws Exception {
        Matcher block = Pattern.compile("(?s)```java\n(.*?)```").matcher(readme);
        boolean found = block.find();
        must(found, "it has no example");
        if (!found) {
            return;
        }
        String code = block.group(1);
        List<String> shown = new ArrayList<>();
        Matcher answer = Pattern.compile("println\\(.*\\); +// (-?\\w+):").matcher(code);
        while (answer.find()) {
            shown.add(answer.group(1));
        }
        must(!shown.isEmpty(), "the example shows no answer");
        List<String> printed = run(code);
        must(printed.equals(shown), "the example answers " + printed + ", but shows " + shown);
    }

    private static List<String> run(String code) throws Exception {
        Path place = Files.createTempDirectory("readme");
        Path source = Files.writeString(place.resolve("Example.java"), code);
        int failed = ToolProvider.getSystemJavaCompiler().run(null, null, null,
            "-cp", System.getProperty("java.class.path"), "-d", place.toString(), source.toString());
        must(failed == 0, "the example does not compile");
        ByteArrayOutputStream out = new ByteArrayOutputStream();
        if (failed == 0) {
            PrintStream before = System.out;
            try (URLClassLoader loader = new URLClassLoader(new URL[] {place.toUri().toURL()})) {
                System.setOut(new PrintStream(out, true, StandardCharsets.UTF_8));
                loader.loadClass("Example").getMethod("main", String[].class).invoke(null, (Object) new String[0]);
            } finally {
                System.setOut(before);
            }
        }
        Files.deleteIfExists(place.resolve("Example.class"));
        Files.deleteIfExists(source);
        Files.deleteIfExists(place);
        return out.toString(StandardCharsets.UTF_8).lines().toList();
    }
}
