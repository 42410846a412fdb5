import java.io.ByteArrayOutputStream;
import java.io.IOException;
import java.io.PrintStream;
import java.lang.reflect.Method;
import java.lang.reflect.Modifier;
import java.net.URL;
import java.net.URLClassLoader;
import java.nio.charset.StandardCharsets;
import java.nio.file.DirectoryStream;
import java.nio.file.Files;
import java.nio.file.Path;
import java.util.ArrayList;
import java.util.Arrays;
import java.util.Comparator;
import java.util.List;
import java.util.regex.Matcher;
import java.util.regex.Pattern;
import java.util.stream.Stream;
import javax.tools.JavaCompiler;
import javax.tools.ToolProvider;

/** README.md says what holds: its example prints what stands behind it, and no call and no test is left out. */
public final class ReadmeTest {
    private static final Path SHARED_TESTS = Path.of("../shared/tests");
    private static final Path TESTS = Path.of("src/test/java");

    public static void main(String[] args) throws Exception {
        String readme = Files.readString(Path.of("README.md"), StandardCharsets.UTF_8);
        example(readme);
        calls(readme);
        tests(readme);
        commands(readme);
        Told.end();
    }

    /** What stands between the first line of so many quotes with that word and the next one without. */
    private static String block(String readme, String word) {
        Matcher block = Pattern.compile("(?s)```" + word + "\n(.*?)```").matcher(readme);
        boolean found = block.find();
        Told.due("README.md has a block of " + word, found, true);
        return found ? block.group(1) : "";
    }

    private static void example(String readme) throws Exception {
        Path built = Files.createTempDirectory("readme");
        try {
            Path source = built.resolve("Example.java");
            Files.writeString(source, block(readme, "java"), StandardCharsets.UTF_8);
            JavaCompiler javac = ToolProvider.getSystemJavaCompiler();
            int failed = javac.run(null, System.out, System.out, "--release", "17", "-Xlint:all", "-Werror", "-d",
                    built.toString(), source.toString(), "src/main/java/ThiefTakers.java");
            Told.due("the example is compiled", failed, 0);
            Told.same("the example prints", failed == 0 ? printedIn(built) : "", block(readme, "text"));
        } finally {
            remove(built);
        }
    }

    private static String printedIn(Path built) throws Exception {
        PrintStream out = System.out;
        ByteArrayOutputStream printed = new ByteArrayOutputStream();
        try (URLClassLoader loader = new URLClassLoader(new URL[] {built.toUri().toURL()}, null)) {
            System.setOut(new PrintStream(printed, true, StandardCharsets.UTF_8));
            loader.loadClass("Example").getMethod("main", String[].class).invoke(null, (Object) new String[0]);
        } finally {
            System.setOut(out);
        }
        return printed.toString(StandardCharsets.UTF_8).replace(System.lineSeparator(), "\n");
    }

    private static void remove(Path directory) throws IOException {
        List<Path> found = new ArrayList<>();
        try (Stream<Path> below = Files.walk(directory)) {
            below.sorted(Comparator.reverseOrder()).forEach(found::add);
        }
        for (Path path : found) {
            Files.delete(path);
        }
    }

    /** Each call of the face stands there with as many arguments as it has, and none that isn't one. */
    private static void calls(String readme) {
        int told = 0;
        Matcher call = Pattern.compile("`(\\w+)\\(([\\w, ]*)\\)`").matcher(readme);
        List<String> found = new ArrayList<>();
        while (call.find()) {
            found.add(call.group(1) + " " + (call.group(2).isEmpty() ? 0 : call.group(2).split(", ").length));
        }
        List<String> face = new ArrayList<>();
        for (Method method : ThiefTakers.class.getDeclaredMethods()) {
            if (Modifier.isPublic(method.getModifiers())) {
                face.add(method.getName() + " " + method.getParameterCount());
            }
        }
        for (String one : face) {
            Told.due("README.md has the call " + one, found.contains(one), true);
            told++;
        }
        for (String one : found) {
            Told.due("README.md's call " + one + " is one", face.contains(one), true);
        }
        Told.due("calls", told, 47);
    }

    private static List<String> namesIn(Path directory, String ending) throws IOException {
        List<String> names = new ArrayList<>();
        try (DirectoryStream<Path> files = Files.newDirectoryStream(directory, "*" + ending + ".java")) {
            for (Path file : files) {
                names.add(file.getFileName().toString().replace(".java", ""));
            }
        }
        return names;
    }

    private static void tests(String readme) throws IOException {
        List<String> tests = namesIn(TESTS, "Test");
        Told.due("this test is there", tests.contains("ReadmeTest"), true);
        for (String test : tests) {
            Told.due("README.md has the test " + test, readme.contains("`" + test + "`"), true);
        }
        Matcher named = Pattern.compile("`(\\w+Test)`").matcher(readme);
        while (named.find()) {
            Told.due("README.md's test " + named.group(1) + " is there", tests.contains(named.group(1)), true);
        }
    }

    /** Each test that a command runs is there. */
    private static void commands(String readme) throws IOException {
        List<String> tests = namesIn(TESTS, "Test");
        tests.addAll(namesIn(SHARED_TESTS, ""));
        Matcher command = Pattern.compile("(?m)^\\.ci/run (.+)$").matcher(readme);
        boolean found = false;
        while (command.find()) {
            found = true;
            for (String name : Arrays.asList(command.group(1).split(" "))) {
                Told.due("there is a test " + name + " to run", tests.contains(name), true);
            }
        }
        Told.due("README.md runs one test alone", found, true);
    }
}
