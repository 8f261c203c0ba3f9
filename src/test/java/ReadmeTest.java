import java.io.IOException;
import java.lang.reflect.InvocationTargetException;
import java.lang.reflect.Method;
import java.lang.reflect.Modifier;
import java.nio.file.Files;
import java.nio.file.Path;
import java.util.ArrayList;
import java.util.List;
import java.util.Set;
import java.util.TreeSet;
import java.util.regex.MatchResult;
import java.util.regex.Matcher;
import java.util.regex.Pattern;
import java.util.stream.Stream;

/** README.md tells how to use the class and how to run its tests as they stand: what it shows is done here. */
public final class ReadmeTest {
    private static final Pattern CALL = Pattern.compile("s\\.(\\w+)\\((.*?)\\); +// (throws \\w+|-?[0-9.]+)(?:, .*)?");
    private static final Pattern ROW = Pattern.compile("(?m)^\\| `([^`]+)` \\| (?:`([^`]+)`|throws (\\w+)) \\|[^|]+\\|$");

    private final Checks checks = new Checks();
    private final String readme;

    private ReadmeTest(String readme) {
        this.readme = readme;
    }

    public static void main(String[] args) throws Exception {
        ReadmeTest test = new ReadmeTest(Files.readString(Path.of("README.md")));
        test.example();
        test.texts();
        test.namesEachCall();
        test.namesEachTest();
        test.namesEachClassInside();
        test.commands();
        test.checks.end();
    }

    private List<String> blocks(String language) {
        Matcher matcher = Pattern.compile("(?s)```" + language + "\n(.*?)```").matcher(readme);
        return matcher.results().map(one -> one.group(1)).toList();
    }

    private static Method face(String name) {
        return Stream.of(SchemeSystem.class.getMethods()).filter(one -> one.getName().equals(name)).findFirst().orElseThrow();
    }

    private static String answer(SchemeSystem system, String name, String argument) throws IllegalAccessException {
        Method method = face(name);
        List<Object> arguments = new ArrayList<>();
        if (method.getParameterCount() == 1) {
            long number = Long.decode(argument.replace("L", ""));
            arguments.add(method.getParameterTypes()[0] == long.class ? (Object) number : (Object) (int) number);
        }
        try {
            return String.valueOf(method.invoke(system, arguments.toArray()));
        } catch (InvocationTargetException e) {
            return "throws " + e.getCause().getClass().getSimpleName();
        }
    }

    private void example() throws IllegalAccessException {
        String[] lines = blocks("java").get(0).split("\n");
        checks.due("the example's first line", lines[0], "SchemeSystem s = new SchemeSystem();");
        SchemeSystem system = new SchemeSystem();
        for (int i = 1; i < lines.length; i++) {
            Matcher call = CALL.matcher(lines[i]);
            checks.due(lines[i] + " tells an answer", call.matches(), true);
            checks.due(lines[i], answer(system, call.group(1), call.group(2)), call.group(3));
        }
    }

    private void texts() {
        List<MatchResult> rows = ROW.matcher(readme).results().toList();
        checks.due("texts with values", rows.size(), 11);
        Session s = new Session();
        for (MatchResult row : rows) {
            String thrown = row.group(3);
            checks.due("thrown in the table", thrown == null || thrown.equals("NoSuchElementException"), true);
            checks.due(row.group(1), s.value(row.group(1)), thrown == null ? row.group(2) : "missing");
        }
    }

    private void namesEachCall() {
        for (Method one : SchemeSystem.class.getDeclaredMethods()) {
            if (Modifier.isPublic(one.getModifiers())) {
                Matcher row = Pattern.compile("(?m)^\\| `" + one.getName() + "\\(\\w*\\)` \\|[^|]+\\|([^|]+)\\|$").matcher(readme);
                checks.due("README has a row for " + one.getName(), row.find(), true);
                checks.due(one.getName() + " throws", namesIn(row.group(1), "Exception"), thrownBy(one));
            }
        }
    }

    private static Set<String> thrownBy(Method method) {
        Set<String> all = new TreeSet<>();
        for (Class<?> one : method.getExceptionTypes()) {
            all.add(one.getSimpleName());
        }
        return all;
    }

    /** The words in such `quotes` that end so. */
    private static Set<String> namesIn(String text, String end) {
        Set<String> all = new TreeSet<>();
        Pattern.compile("`(\\w+" + end + ")`").matcher(text).results().forEach(one -> all.add(one.group(1)));
        return all;
    }

    private void namesEachTest() throws IOException {
        Set<String> files = new TreeSet<>();
        try (Stream<Path> all = Files.list(Path.of("src/test/java"))) {
            all.map(one -> one.getFileName().toString()).filter(one -> one.endsWith("Test.java"))
                .forEach(one -> files.add(one.replace(".java", "")));
        }
        checks.due("tests that README names", namesIn(readme, "Test"), files);
    }

    private void namesEachClassInside() {
        for (Class<?> one : SchemeSystem.class.getDeclaredClasses()) {
            checks.due("README names " + one.getSimpleName(), readme.contains("`" + one.getSimpleName() + "`"), true);
        }
    }

    private void commands() throws IOException, InterruptedException {
        List<String> blocks = blocks("sh");
        checks.due("command blocks", blocks.size(), 2);
        checks.due("the command for all tests", blocks.get(0), ".ci/run\n");
        checks.due("which can be run", Files.isExecutable(Path.of(".ci/run")), true);
        Process process = new ProcessBuilder("bash", "-eu", "-c", blocks.get(1)).redirectErrorStream(true).start();
        String said = new String(process.getInputStream().readAllBytes());
        checks.due("the commands for one test (" + said + ") end with", process.waitFor(), 0);
    }
}
