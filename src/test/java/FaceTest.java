import java.lang.reflect.Constructor;
import java.lang.reflect.Field;
import java.lang.reflect.Method;
import java.lang.reflect.Modifier;
import java.util.Arrays;
import java.util.Set;
import java.util.TreeSet;

/** The class has the document's public face, and no other member that is not private. */
public final class FaceTest {
    private static final String IAE = "IllegalArgumentException";
    private static final String ISE = "IllegalStateException";
    private static final String IOOBE = "IndexOutOfBoundsException";

    public static void main(String[] args) {
        Check check = new Check();
        Class<LendingCells> type = LendingCells.class;
        check.is("modifiers", Modifier.toString(type.getModifiers()), "public final");
        check.is("NONE", LendingCells.NONE, -9);

        Set<String> fields = new TreeSet<>();
        for (Field field : type.getDeclaredFields()) {
            if (!Modifier.isPrivate(field.getModifiers())) {
                fields.add(Modifier.toString(field.getModifiers()) + " " + field.getType() + " " + field.getName());
            }
        }
        check.is("fields", fields.toString(), "[public static final int NONE]");

        Constructor<?>[] constructors = type.getDeclaredConstructors();
        check.is("constructors", constructors.length, 1);
        check.is("constructor", constructors[0].toString(), "public LendingCells()");

        Set<String> wanted = new TreeSet<>(Set.of(
                face("append", 1, IAE, ISE), face("clearText", 0), face("errorPosition", 0), face("load", 0, ISE),
                face("about", 1, IAE), face("cell", 2, IOOBE, IAE), face("loan", 2, IOOBE, IAE),
                face("order", 1, IAE), face("addCell", 3, IAE, ISE), face("lend", 4, IOOBE, IAE, ISE),
                face("repay", 2, IOOBE, IAE, ISE), face("setLeak", 2, IOOBE, IAE), face("charge", 1, IAE),
                face("draw", 1, IAE, ISE), face("pass", 1, IAE), face("undo", 0, ISE), face("holds", 1, IOOBE),
                face("draws", 1, IAE), face("most", 0), face("bestLender", 2, IOOBE, IAE),
                face("costs", 2, IOOBE, IAE), face("save", 1, IOOBE), face("restore", 1, IOOBE, ISE)));
        wanted.add("public int runScript[int, long] throws [" + IAE + "]");
        wanted.add("public int simulate[long, int] throws [" + IAE + "]");

        Set<String> found = new TreeSet<>();
        Set<String> publicNames = new TreeSet<>();
        for (Method method : type.getDeclaredMethods()) {
            if (!Modifier.isPrivate(method.getModifiers()) && !method.isSynthetic()) {
                found.add(Modifier.toString(method.getModifiers()) + " " + method.getReturnType() + " "
                        + method.getName() + names(method.getParameterTypes())
                        + " throws " + names(method.getExceptionTypes()));
                publicNames.add(method.getName());
            }
        }
        check.is("methods", found.toString(), wanted.toString());

        for (Method method : type.getDeclaredMethods()) {
            if (Modifier.isPrivate(method.getModifiers())) {
                check.is("a private method bears the public name " + method.getName(),
                        publicNames.contains(method.getName()), false);
            }
        }
        for (Class<?> inside : type.getDeclaredClasses()) {
            check.is("static " + inside, Modifier.isStatic(inside.getModifiers()), true);
            check.is("public or protected " + inside,
                    Modifier.isPublic(inside.getModifiers()) || Modifier.isProtected(inside.getModifiers()), false);
        }
        check.end();
    }

    private static String face(String name, int ints, String... thrown) {
        String[] parameters = new String[ints];
        Arrays.fill(parameters, "int");
        return "public int " + name + Arrays.toString(parameters) + " throws " + Arrays.toString(thrown);
    }

    private static String names(Class<?>[] types) {
        return Arrays.toString(Arrays.stream(types).map(Class::getSimpleName).toArray());
    }
}
