import java.io.IOException;
import java.lang.reflect.Method;
import java.nio.file.Files;
import java.nio.file.Path;
import java.util.List;
import java.util.regex.Matcher;
import java.util.regex.Pattern;

/** The calls that README.md shows answer what it says: `battery.call(numbers); // answer: what it means`. */
public final class ReadmeTest {
    private static final Pattern SHOWN = Pattern.compile("battery\\.(\\w+)\\(([^)]*)\\);\\s*// (-?\\d+): .*");

    public static void main(String[] args) throws IOException, ReflectiveOperationException {
        Check check = new Check();
        LendingCells battery = new LendingCells();
        List<String> lines = Files.readAllLines(Path.of("README.md")).stream().filter(l -> l.startsWith("battery.")).toList();
        check.is("there are some", lines.isEmpty(), false);
        for (String line : lines) {
            Matcher shown = SHOWN.matcher(line);
            check.is("the form of " + line, shown.matches(), true);
            if (shown.matches()) {
                check.is(line, answer(battery, shown.group(1), shown.group(2)), shown.group(3));
            }
        }
        check.end();
    }

    private static String answer(LendingCells battery, String name, String numbers) throws ReflectiveOperationException {
        String[] given = numbers.isEmpty() ? new String[0] : numbers.split(", ");
        for (Method method : LendingCells.class.getMethods()) {
            if (method.getName().equals(name) && method.getParameterCount() == given.length) {
                Object[] values = new Object[given.length];
                for (int k = 0; k < given.length; k++) {
                    long value = Long.parseLong(given[k].replace("L", ""));
                    values[k] = method.getParameterTypes()[k] == long.class ? (Object) value : (Object) (int) value;
                }
                return method.invoke(battery, values).toString();
            }
        }
        return "no such call";
    }
}
