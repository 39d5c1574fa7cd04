import java.io.IOException;
import java.lang.reflect.InvocationTargetException;
import java.lang.reflect.Method;
import java.lang.reflect.Modifier;
import java.nio.file.Files;
import java.nio.file.Path;
import java.util.HashMap;
import java.util.List;
import java.util.Map;
import java.util.regex.Matcher;
import java.util.regex.Pattern;

/** Makes the calls of the examples in README.md: each answers what the comment behind it says. */
public final class ReadmeTest {
    private static final Pattern CALL = Pattern.compile(
            "(?:int (\\w+) = )?desk\\.(\\w+)\\(([^)]*)\\);\\s*(?:// (.*))?");
    private static final Pattern ANSWER = Pattern.compile("(-?\\d+|throws \\w+)(:.*)?");

    private final Map<String, Integer> names = new HashMap<>(Map.of("QuiltDesk.NONE", -1));
    private QuiltDesk desk = new QuiltDesk();
    private int compared;

    public static void main(String[] args) throws IOException {
        List<String> lines = Files.readAllLines(Path.of("README.md"));
        ReadmeTest test = new ReadmeTest();
        test.examples(lines);
        Expect.same("examples compare at least 25 answers", test.compared >= 25 ? 1 : 0, 1);
        calls(String.join("\n", lines));
        Expect.finish("ReadmeTest");
    }

    private void examples(List<String> lines) {
        boolean inside = false;
        for (String line : lines) {
            if (line.startsWith("```")) {
                inside = line.equals("```java");
            } else if (inside && !line.isBlank()) {
                step(line);
            }
        }
    }

    private void step(String line) {
        if (line.equals("QuiltDesk desk = new QuiltDesk();")) {
            desk = new QuiltDesk();
            return;
        }
        Matcher call = CALL.matcher(line);
        boolean readable = call.matches();
        Expect.same("a line that can be tested: " + line, readable ? 1 : 0, 1);
        if (!readable) {
            return;
        }
        String got = answer(call.group(2), arguments(call.group(3)));
        if (call.group(1) != null) {
            names.put(call.group(1), Integer.valueOf(got));
        }
        Matcher due = ANSWER.matcher(call.group(4) == null ? "" : call.group(4));
        if (due.matches()) {
            compared++;
            Expect.same(line + " (got " + got + ")", got.equals(due.group(1)) ? 1 : 0, 1);
        } else {
            Expect.same(line + " (got " + got + ")", got.startsWith("throws") ? 1 : 0, 0);
        }
    }

    private Object[] arguments(String text) {
        if (text.isEmpty()) {
            return new Object[0];
        }
        String[] parts = text.split(", ");
        Object[] values = new Object[parts.length];
        for (int i = 0; i < parts.length; i++) {
            values[i] = names.containsKey(parts[i])
                    ? names.get(parts[i]) : Integer.valueOf(parts[i]);
        }
        return values;
    }

    private String answer(String name, Object[] values) {
        Class<?>[] types = new Class<?>[values.length];
        java.util.Arrays.fill(types, int.class);
        try {
            return String.valueOf(QuiltDesk.class.getMethod(name, types).invoke(desk, values));
        } catch (InvocationTargetException e) {
            return "throws " + e.getCause().getClass().getSimpleName();
        } catch (ReflectiveOperationException e) {
            return "no such call: " + e;
        }
    }

    /** Each call of the face has its row, with as many parameters as it takes. */
    private static void calls(String readme) {
        for (Method method : QuiltDesk.class.getDeclaredMethods()) {
            if (Modifier.isPublic(method.getModifiers())) {
                String names = "\\w+, ".repeat(method.getParameterCount()).replaceAll(", $", "");
                Pattern pattern = Pattern.compile(
                        "\\| `" + method.getName() + "\\(" + names + "\\)` \\|");
                Expect.same("a row on " + method.getName(),
                        pattern.matcher(readme).find() ? 1 : 0, 1);
            }
        }
    }
}
