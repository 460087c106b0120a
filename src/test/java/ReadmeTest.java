import java.io.IOException;
import java.lang.reflect.Method;
import java.lang.reflect.Modifier;
import java.nio.file.DirectoryStream;
import java.nio.file.Files;
import java.nio.file.Path;
import java.util.List;
import java.util.Set;
import java.util.TreeSet;
import java.util.regex.Matcher;
import java.util.regex.Pattern;

/** README.md: its run of calls gives the answers that stand there, and it names every call and every test. */
public final class ReadmeTest {
    private static final Checks CHECKS = new Checks();
    private static final Path README = Path.of("README.md");
    private static final Path TESTS = Path.of("src/test/java");

    private static final String NEW_OBJECT = "TaintScanner x = new TaintScanner();";
    /** A call with its answer, and behind a colon what that means. */
    private static final Pattern CALL = Pattern.compile("x\\.(\\w+)\\(([^()]*)\\); +// (NONE|true|false|-?\\w+)(: .+)?");
    /** A call in the text, with the names of its arguments. */
    private static final Pattern NAMED_CALL = Pattern.compile("`(\\w+)\\(([a-z, ]*)\\)`");
    private static final Pattern NAMED_TEST = Pattern.compile("`(\\w+Test)`");

    public static void main(String[] args) throws Exception {
        List<String> lines = Files.readAllLines(README);
        Set<String> called = makeCalls(lines);
        for (Method m : TaintScanner.class.getMethods()) {
            if (m.getDeclaringClass() == TaintScanner.class && !Modifier.isStatic(m.getModifiers())) {
                CHECKS.holds("the run of calls has " + m.getName(), called.contains(m.getName()));
            }
        }
        namesEveryCall(String.join("\n", lines));
        namesEveryTest(String.join("\n", lines));
        CHECKS.close("ReadmeTest");
    }

    /** Makes the calls of the page's Java, all on one object: which ones there were. */
    private static Set<String> makeCalls(List<String> lines) throws ReflectiveOperationException {
        Set<String> called = new TreeSet<>();
        TaintScanner x = null;
        boolean inJava = false;
        for (String line : lines) {
            if (line.startsWith("```")) {
                inJava = line.equals("```java");
            } else if (inJava && line.equals(NEW_OBJECT)) {
                CHECKS.holds("one object makes the whole run", x == null);
                x = new TaintScanner();
            } else if (inJava && !line.isEmpty() && !line.startsWith("//")) {
                Matcher call = CALL.matcher(line);
                boolean right = x != null && call.matches();
                CHECKS.holds("a call on x with its answer: " + line, right);
                if (right) {
                    called.add(call.group(1));
                    CHECKS.same(line, answer(x, call.group(1), call.group(2)), number(call.group(3)));
                }
            }
        }
        return called;
    }

    /** What a call answers; a boolean counts 1 or 0. */
    private static long answer(TaintScanner x, String name, String written) throws ReflectiveOperationException {
        Method m = method(name);
        Class<?>[] types = m.getParameterTypes();
        String[] parts = parts(written);
        Object[] values = new Object[parts.length];
        for (int i = 0; i < parts.length; i++) {
            if (types[i] == long.class) {
                values[i] = Long.decode(parts[i]);
            } else {
                values[i] = Integer.decode(parts[i]);
            }
        }
        Object answer = m.invoke(x, values);
        return answer instanceof Boolean b ? (b ? 1 : 0) : ((Number) answer).longValue();
    }

    private static Method method(String name) throws NoSuchMethodException {
        for (Method m : TaintScanner.class.getMethods()) {
            if (m.getName().equals(name)) {
                return m;
            }
        }
        throw new NoSuchMethodException(name);
    }

    private static String[] parts(String written) {
        return written.isEmpty() ? new String[0] : written.split(", ");
    }

    private static long number(String answer) {
        return switch (answer) {
            case "NONE" -> TaintScanner.NONE;
            case "true" -> 1;
            case "false" -> 0;
            default -> Long.decode(answer);
        };
    }

    private static void namesEveryCall(String text) throws NoSuchMethodException {
        Set<String> named = new TreeSet<>();
        Matcher call = NAMED_CALL.matcher(text);
        while (call.find()) {
            named.add(call.group(1));
            CHECKS.same("arguments of " + call.group(), parts(call.group(2)).length, method(call.group(1)).getParameterCount());
        }
        for (Method m : TaintScanner.class.getMethods()) {
            if (m.getDeclaringClass() == TaintScanner.class) {
                CHECKS.holds("the page tells of " + m.getName(), named.contains(m.getName()));
            }
        }
    }

    private static void namesEveryTest(String text) throws IOException {
        Set<String> named = new TreeSet<>();
        Matcher test = NAMED_TEST.matcher(text);
        while (test.find()) {
            named.add(test.group(1));
        }
        Set<String> tests = new TreeSet<>();
        try (DirectoryStream<Path> files = Files.newDirectoryStream(TESTS, "*Test.java")) {
            for (Path file : files) {
                tests.add(file.getFileName().toString().replace(".java", ""));
            }
        }
        CHECKS.holds("the page names the tests " + tests + ", not " + named, named.equals(tests));
    }
}
