import java.lang.reflect.Executable;
import java.lang.reflect.Field;
import java.lang.reflect.Method;
import java.lang.reflect.Modifier;
import java.util.Arrays;
import java.util.List;
import java.util.Set;
import java.util.TreeSet;

/** The public face of the class, and those rules of LANGUAGE.md that can be seen from the compiled classes. */
public final class FaceTest {
    private static final List<Class<?>> CONSTANTS = List.of(int.class, long.class, boolean.class, char.class, String.class,
        int[].class, long[].class, char[].class, byte[].class);

    public static void main(String[] args) {
        Checks checks = new Checks();
        face(checks);
        Class<?>[] inside = SchemeSystem.class.getDeclaredClasses();
        checks.due("at most twelve classes", inside.length + 1 <= 12, true);
        for (Class<?> one : inside) {
            checks.due(one + " static", Modifier.isStatic(one.getModifiers()), true);
            checks.due(one + " not public", Modifier.isPublic(one.getModifiers()), false);
            rules(checks, one);
        }
        rules(checks, SchemeSystem.class);
        checks.end();
    }

    private static void face(Checks checks) {
        Set<String> visible = new TreeSet<>();
        for (Method one : SchemeSystem.class.getDeclaredMethods()) {
            if (!Modifier.isPrivate(one.getModifiers())) {
                visible.add(one.toGenericString());
            }
        }
        Set<String> due = new TreeSet<>(List.of(
            "public int SchemeSystem.type(long) throws java.lang.IllegalArgumentException,java.lang.IllegalStateException",
            "public int SchemeSystem.compile() throws java.lang.IllegalArgumentException",
            "public int SchemeSystem.run() throws java.util.NoSuchElementException,java.lang.IllegalStateException,"
                + "java.lang.UnsupportedOperationException,java.lang.ArithmeticException",
            "public int SchemeSystem.letter(int) throws java.util.NoSuchElementException",
            "public double SchemeSystem.number(int) throws java.util.NoSuchElementException",
            "public int SchemeSystem.collect()", "public int SchemeSystem.count(int)"));
        checks.due("methods", visible, due);
        checks.due("constructors", Arrays.toString(SchemeSystem.class.getDeclaredConstructors()), "[public SchemeSystem()]");
        checks.due("public and final", Modifier.toString(SchemeSystem.class.getModifiers()), "public final");
        for (Field one : SchemeSystem.class.getDeclaredFields()) {
            checks.due(one + " private", Modifier.isPrivate(one.getModifiers()), true);
        }
    }

    private static void rules(Checks checks, Class<?> one) {
        int fields = 0;
        for (Field field : one.getDeclaredFields()) {
            if (Modifier.isStatic(field.getModifiers())) {
                checks.due(field + " final", Modifier.isFinal(field.getModifiers()), true);
                checks.due(field + " a constant", CONSTANTS.contains(field.getType()), true);
            } else {
                fields++;
            }
        }
        checks.due(one + " has at most twenty fields", fields <= 20, true);
        Set<String> face = Set.of("type", "compile", "run", "letter", "number", "collect", "count");
        for (Method method : one.getDeclaredMethods()) {
            boolean ofTheFace = one == SchemeSystem.class && Modifier.isPublic(method.getModifiers());
            checks.due(method + " has a name of its own", !face.contains(method.getName()) || ofTheFace, true);
            fewParameters(checks, method);
        }
        for (Executable constructor : one.getDeclaredConstructors()) {
            fewParameters(checks, constructor);
        }
    }

    private static void fewParameters(Checks checks, Executable one) {
        checks.due(one + " has at most seven parameters", one.getParameterCount() <= 7, true);
    }
}
