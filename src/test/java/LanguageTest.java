import java.io.IOException;
import java.nio.file.Files;
import java.nio.file.Path;
import java.util.Set;
import java.util.stream.Collectors;

/** The program keeps to those rules of LANGUAGE.md that its source shows; FaceTest looks at the compiled classes. */
public final class LanguageTest {
    private static final Path SOURCE = Path.of("src/main/java/SchemeSystem.java");

    public static void main(String[] args) throws IOException {
        Checks checks = new Checks();
        String source = Files.readString(SOURCE);
        checks.due("what the program breaks", Language.faults(source), Set.of());
        checks.due("a package line", source.lines().anyMatch(one -> one.startsWith("package ")), false);
        checks.due("a character above 255", source.chars().anyMatch(one -> one > 255), false);
        broken(checks);
        checks.end();
    }

    /** The test itself: what breaks a rule is seen. */
    private static void broken(Checks checks) {
        breaks(checks, "", "int f(int i) { return Math.max(i, 3); }");
        breaks(checks, "", "void f() { throw new IllegalStateException(\"a written text\"); }");
        breaks(checks, "", "int f(int i) { return i == 0 ? 0 : g(i - 1); } int g(int i) { return f(i); }");
        breaks(checks, "2", "Runnable r = () -> { };");
        breaks(checks, "2", "Runnable r = SchemeSystem::f; static void f() { }");
        breaks(checks, "3", "double f(double d) { return d % 2; }");
        breaks(checks, "4", "double f(double d) { return Math.max(d, 0.0); }");
        breaks(checks, "4", "int f(int i) { return Math.addExact(i, 1); }");
        breaks(checks, "4", "String f(int i) { return String.valueOf(i); }");
        breaks(checks, "4", "Object f() { return new java.util.HashMap<String, String>(); }");
        breaks(checks, "5", "static { }");
        breaks(checks, "4 6", "void f() { throw new Error(); }");
        breaks(checks, "6", "void f(RuntimeException e) { throw e; }");
        breaks(checks, "6", "SchemeSystem() { throw new IllegalStateException(); }");
        breaks(checks, "6", "void f() { try { f(); } finally { } }");
        breaks(checks, "6", "void f() { try { f(); } catch (Error e) { } }");
        breaks(checks, "6", "void f() { synchronized (this) { } }");
        breaks(checks, "6", "void f(int i) { assert i > 0; }");
        breaks(checks, "9", "void f() { while (true) { f(); } }");
        breaks(checks, "9", "void f() { do { f(); } while (true); }");
        breaks(checks, "9", "void f() { for (;;) { f(); } }");
        breaks(checks, "10", "String f(int i) { return \"a\" + i; }");
        breaks(checks, "10", "String f(String s) { s += 1; return s; }");
        breaks(checks, "11", "void f() { " + "\n".repeat(60) + " }");
        breaks(checks, "11", "void f(int a, int b, int c, int d, int e, int g, int h, int i) { }");
        breaks(checks, "", chain(8));
        breaks(checks, "11", chain(9));
    }

    /** So many methods, each calling the next. */
    private static String chain(int length) {
        StringBuilder all = new StringBuilder();
        for (int i = 1; i < length; i++) {
            all.append("void f").append(i).append("() { f").append(i + 1).append("(); } ");
        }
        return all.append("void f").append(length).append("() { }").toString();
    }

    /** The rules that a class with this member breaks, by their numbers. */
    private static void breaks(Checks checks, String rules, String member) {
        Set<String> faults = Language.faults("final class SchemeSystem { " + member + " }");
        String broken = faults.stream().map(one -> one.replaceAll("(?s)rule (\\d+).*", "$1")).distinct()
            .collect(Collectors.joining(" "));
        checks.due(member + " breaks rules", broken, rules);
    }
}
