import java.io.IOException;
import java.lang.reflect.InvocationTargetException;
import java.lang.reflect.Method;
import java.lang.reflect.Modifier;
import java.nio.file.Files;
import java.nio.file.Path;
import java.util.HashMap;
import java.util.Map;
import java.util.TreeSet;
import java.util.regex.Matcher;
import java.util.regex.Pattern;
import java.util.stream.Stream;

/** The examples of README.md, call by call: each answers, or throws, what stands behind it. */
public final class ReadmeTest {
    private static final Pattern MAKING = Pattern.compile("(ClockCourt )?court = new ClockCourt\\(\\);");
    private static final Pattern CALL =
        Pattern.compile("court\\.(\\w+)\\(([^)]*)\\); +// (-?\\d+|throws \\w+)(: .*)?");

    private final Due due = new Due();
    private final Map<String, Method> face = new HashMap<>();
    private final TreeSet<String> shown = new TreeSet<>();
    private ClockCourt court = null;
    private int calls = 0;

    private ReadmeTest() {
        for (Method m : ClockCourt.class.getDeclaredMethods()) {
            if (Modifier.isPublic(m.getModifiers())) {
                face.put(m.getName(), m);
            }
        }
    }

    public static void main(String[] args) throws IOException, IllegalAccessException {
        ReadmeTest t = new ReadmeTest();
        String text = Files.readString(Path.of("README.md"));
        t.examples(text);
        t.tests(text);
        t.due.end();
    }

    private void examples(String text) throws IllegalAccessException {
        boolean inside = false;
        for (String line : text.split("\n")) {
            if (line.startsWith("```")) {
                inside = line.equals("```java");
            } else if (inside && MAKING.matcher(line).matches()) {
                court = new ClockCourt();
                calls = 0;
            } else if (inside && !line.isEmpty()) {
                example(line);
            }
        }
        for (String name : face.keySet()) {
            due.is(name + " is in an example", shown.contains(name) ? 1 : 0, 1);
        }
    }

    private void example(String line) throws IllegalAccessException {
        Matcher m = CALL.matcher(line);
        boolean told = m.matches() && court != null && face.containsKey(m.group(1));
        due.is("an example with its answer: " + line, told ? 1 : 0, 1);
        if (!told) {
            return;
        }
        shown.add(m.group(1));
        calls++;
        due.is("within the calls of an object: " + line, calls <= 512 ? 1 : 0, 1);
        String got = answer(face.get(m.group(1)), m.group(2));
        due.is(line + " gives " + got, got.equals(m.group(3)) ? 1 : 0, 1);
    }

    private String answer(Method call, String numbers) throws IllegalAccessException {
        String[] parts = numbers.isEmpty() ? new String[0] : numbers.split(", ");
        Object[] given = new Object[parts.length];
        for (int i = 0; i < parts.length; i++) {
            boolean truth = call.getParameterTypes()[i] == boolean.class;
            given[i] = truth ? (Object) Boolean.valueOf(parts[i]) : (Object) Integer.valueOf(parts[i]);
        }
        try {
            return call.invoke(court, given).toString();
        } catch (InvocationTargetException e) {
            return "throws " + e.getCause().getClass().getSimpleName();
        }
    }

    /** What else it has to say: every test by its name, and for how many calls an object is used. */
    private void tests(String text) throws IOException {
        try (Stream<Path> files = Files.list(Path.of("src/test/java"))) {
            files.forEach(file -> {
                String name = file.getFileName().toString().replace(".java", "");
                due.is("README.md names " + name, text.contains("`" + name + "`") ? 1 : 0, 1);
            });
        }
        due.is("README.md says how the tests are run", text.contains("\n.ci/run\n") ? 1 : 0, 1);
        due.is("README.md says for how many calls", text.contains("at most 512 calls") ? 1 : 0, 1);
    }
}
