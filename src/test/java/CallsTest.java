import java.io.File;
import java.io.IOException;
import java.lang.reflect.InvocationTargetException;
import java.net.URL;
import java.net.URLClassLoader;
import java.nio.file.Files;
import java.nio.file.Path;
import java.util.ArrayList;
import java.util.List;
import java.util.regex.Pattern;
import java.util.stream.Stream;
import javax.tools.ToolProvider;

/**
 * No test calls an object more than 512 times, as the document leaves free what later calls answer. The other
 * tests are made once more with a copy of the class that counts its calls, and breaks off at the 513th.
 */
public final class CallsTest {
    private static final Path SOURCE = Path.of("src/main/java/LendingCells.java");
    private static final Path TESTS = Path.of("src/test/java");
    private static final Pattern CALL = Pattern.compile("public int \\w+\\([^)]*\\)[^{;]*\\{");
    private static final String COUNTER = "private int madeCalls;\n"
            + "private void countCall() { madeCalls++; if (madeCalls > 512) { throw new Error(\"the 513th call\"); } }\n";

    public static void main(String[] args) throws IOException, ReflectiveOperationException {
        Check check = new Check();
        Path counted = Files.createTempDirectory("counted");
        try {
            check.is("counted methods of the face", compileCounted(counted), 25);
            for (String test : otherTests()) {
                check.is(test, outcome(test, counted), "ended");
            }
        } finally {
            remove(counted);
        }
        check.end();
    }

    /** Answers how many methods count their calls. */
    private static int compileCounted(Path into) throws IOException {
        String source = Files.readString(SOURCE);
        int methods = (int) CALL.matcher(source).results().count();
        String counting = CALL.matcher(source).replaceAll("$0 countCall();");
        int end = counting.indexOf("public LendingCells()");
        Path copy = into.resolve("LendingCells.java");
        Files.writeString(copy, counting.substring(0, end) + COUNTER + counting.substring(end));
        int failed = ToolProvider.getSystemJavaCompiler().run(null, null, null, "-d", into.toString(), copy.toString());
        return failed == 0 ? methods : -1;
    }

    private static List<String> otherTests() throws IOException {
        try (Stream<Path> files = Files.list(TESTS)) {
            return files.map(file -> file.getFileName().toString().replace(".java", ""))
                    .filter(name -> name.endsWith("Test") && !name.equals("CallsTest") && !name.equals("FaceTest"))
                    .sorted().toList();
        }
    }

    private static String outcome(String test, Path counted) throws IOException, ReflectiveOperationException {
        List<URL> places = new ArrayList<>(List.of(counted.toUri().toURL()));
        for (String place : System.getProperty("java.class.path").split(File.pathSeparator)) {
            places.add(Path.of(place).toUri().toURL());
        }
        // Apart from this test's own classes, so that the tests meet the copy that counts.
        try (URLClassLoader apart = new URLClassLoader(places.toArray(new URL[0]), ClassLoader.getPlatformClassLoader())) {
            apart.loadClass(test).getMethod("main", String[].class).invoke(null, (Object) new String[0]);
            return "ended";
        } catch (InvocationTargetException e) {
            return e.getCause() + " " + List.of(e.getCause().getStackTrace());
        }
    }

    private static void remove(Path directory) throws IOException {
        try (Stream<Path> files = Files.walk(directory)) {
            files.sorted((a, b) -> b.compareTo(a)).forEach(file -> file.toFile().delete());
        }
    }
}
