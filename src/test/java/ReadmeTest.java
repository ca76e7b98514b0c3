import java.io.IOException;
import java.lang.reflect.Field;
import java.lang.reflect.Method;
import java.lang.reflect.Modifier;
import java.net.URL;
import java.net.URLClassLoader;
import java.nio.file.Files;
import java.nio.file.Path;
import java.util.regex.Matcher;
import java.util.regex.Pattern;
import java.util.stream.Stream;

/** What README.md says holds: its example is compiled and run; run from the project's folder. */
public final class ReadmeTest {
    private static final Check CHECK = new Check();

    private static final Path TESTS = Path.of("src/test/java");
    private static final Pattern EXAMPLE = Pattern.compile("(?s)```java\n(.*?)```");

    /** A call on a line of its own, with the answer that is told behind it. */
    private static final Pattern ANSWERED = Pattern.compile("(?m)^(x\\.\\w+\\(.*\\)); *// (-?\\d+)(?=:|$).*$");

    public static void main(String[] args) throws Exception {
        String readme = Files.readString(Path.of("README.md"));
        namesTheFace(readme);
        namesTheTests(readme);
        answersAreAsTold(readme);
        CHECK.end();
    }

    private static void names(String readme, String name) {
        CHECK.due("README.md names " + name, readme.contains("`" + name + "`") ? 1 : 0, 1);
    }

    private static void namesTheFace(String readme) throws IllegalAccessException {
        for (Method method : NoiseTithe.class.getDeclaredMethods()) {
            if (Modifier.isPublic(method.getModifiers())) {
                names(readme, method.getName());
            }
        }
        for (Field constant : NoiseTithe.class.getFields()) {
            String told = "`" + constant.getName() + "` " + constant.getInt(null);
            CHECK.due("README.md tells " + told, readme.contains(told) ? 1 : 0, 1);
        }
    }

    private static void namesTheTests(String readme) throws IOException {
        try (Stream<Path> files = Files.list(TESTS)) {
            files.map(file -> file.getFileName().toString())
                    .filter(name -> name.endsWith("Test.java"))
                    .forEach(name -> names(readme, name.substring(0, name.length() - ".java".length())));
        }
        Matcher named = Pattern.compile("`(\\w+Test|Model)`").matcher(readme);
        while (named.find()) {
            boolean isThere = Files.exists(TESTS.resolve(named.group(1) + ".java"));
            CHECK.due(named.group(1) + " is there", isThere ? 1 : 0, 1);
        }
    }

    private static void answersAreAsTold(String readme)
            throws IOException, InterruptedException, ReflectiveOperationException {
        Matcher example = EXAMPLE.matcher(readme);
        if (!example.find()) {
            CHECK.due("README.md has an example", 0, 1);
            return;
        }
        Matcher answered = ANSWERED.matcher(example.group(1));
        CHECK.due("the example tells answers", answered.results().count() > 0 ? 1 : 0, 1);
        String checked = answered.replaceAll("ReadmeTest.due(\"$1\", $1, $2);");
        Path folder = Files.createTempDirectory("readme");
        run(folder, "public final class Example {\npublic static void run() {\n" + checked + "}\n}\n");
    }

    /** For the example, which another loader loads: so it must be public. */
    public static void due(String call, long got, long want) {
        CHECK.due("README.md's " + call, got, want);
    }

    private static void run(Path folder, String example)
            throws IOException, InterruptedException, ReflectiveOperationException {
        Path file = folder.resolve("Example.java");
        Files.writeString(file, example);
        String classes = System.getProperty("java.class.path");
        int failed = new ProcessBuilder("javac", "-cp", classes, "-d", folder.toString(), file.toString())
                .inheritIO().start().waitFor();
        CHECK.due("javac of README.md's example", failed, 0);
        if (failed == 0) {
            URL[] places = {folder.toUri().toURL()};
            try (URLClassLoader loader = new URLClassLoader(places, ReadmeTest.class.getClassLoader())) {
                loader.loadClass("Example").getMethod("run").invoke(null);
            }
        }
        try (Stream<Path> made = Files.list(folder)) {
            for (Path path : made.toList()) {
                Files.delete(path);
            }
        }
        Files.delete(folder);
    }
}
