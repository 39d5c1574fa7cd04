import java.io.IOException;
import java.lang.reflect.Array;
import java.lang.reflect.Field;
import java.lang.reflect.Modifier;
import java.nio.file.Files;
import java.nio.file.Path;
import java.util.ArrayList;
import java.util.Collections;
import java.util.IdentityHashMap;
import java.util.List;
import java.util.Set;
import java.util.regex.Matcher;
import java.util.regex.Pattern;

/**
 * LANGUAGE.md, as far as a look at the source, the classes and a used object can tell: that indices
 * are looked at and that loops end it cannot tell. It allows what the program uses, which is less
 * than the rules do.
 */
public final class RulesTest {
    private static final Path SOURCE = Path.of("src/main/java/QuiltDesk.java");
    private static final int MOST_LINES = 60;
    private static final int MOST_PARAMETERS = 7;
    private static final int MOST_CLASSES = 12;
    private static final int MOST_FIELDS = 20;

    private final String code;

    private RulesTest(String code) {
        this.code = code;
    }

    public static void main(String[] args) throws IOException {
        RulesTest test = new RulesTest(withoutCommentsAndTexts(Files.readString(SOURCE)));
        test.library();
        test.words();
        test.exceptions();
        test.divisors();
        test.methods();
        classes();
        room();
        Expect.finish("RulesTest");
    }

    private static String withoutCommentsAndTexts(String source) {
        return source.replaceAll("\"[^\"\n]*\"", "\"\"").replaceAll("//[^\n]*", "")
                .replaceAll("(?s)/\\*.*?\\*/", "");
    }

    private List<String> found(String pattern) {
        List<String> found = new ArrayList<>();
        Matcher matcher = Pattern.compile(pattern).matcher(code);
        while (matcher.find()) {
            found.add(matcher.group(1));
        }
        return found;
    }

    private static void allOf(String what, List<String> found, Set<String> allowed) {
        for (String each : found) {
            Expect.same(what + " " + each, allowed.contains(each) ? 1 : 0, 1);
        }
    }

    /** Rules 3 and 4. */
    private void library() {
        allOf("import", found("import ([^;]+);"),
                Set.of("java.util.Arrays", "java.util.NoSuchElementException"));
        allOf("library call", found("\\b((?:System|Arrays|Integer|Long|Math)\\.\\w+)"),
                Set.of("System.arraycopy", "Arrays.fill", "Integer.bitCount", "Math.abs",
                        "Math.max", "Math.min"));
        allOf("made", found("\\bnew (\\w+)"),
                Set.of("int", "Drawing", "Piecing", "Top", "Cutting", "NoSuchElementException",
                        "IllegalArgumentException", "IllegalStateException"));
    }

    /** Rules 2, 6 and 13: words and signs that the program has no use for. */
    private void words() {
        allOf("word", found("\\b(package|synchronized|assert|try|catch|finally|native|volatile"
                + "|transient|instanceof|Thread|Object|String|double|float|var)\\b"), Set.of());
        allOf("sign", found("(->|::|@)"), Set.of());
        allOf("a static block", found("\\b(static)\\s*\\{"), Set.of());
    }

    /** Rule 6: each throw makes its exception there, with a written text. */
    private void exceptions() {
        allOf("throw", found("\\bthrow\\b([^;]*);"),
                Set.of(" new NoSuchElementException(\"\")", " new IllegalArgumentException(\"\")",
                        " new IllegalStateException(\"\")"));
    }

    /** Rule 7: what divides is a constant, so that it is not 0. */
    private void divisors() {
        List<String> divisors = found("[^/]\\s[/%]=? (\\S+?)[;,)\\]\\s]");
        Expect.same("there are some", divisors.isEmpty() ? 0 : 1, 1);
        allOf("divisor", divisors, Set.of("PATCHES", "CORNERS", "COLUMNS", "4"));
    }

    /** Rule 11. */
    private void methods() {
        Matcher method = Pattern.compile(
                "(?m)^( {4,8})(?:\\w+(?:\\[\\])? )*(\\w+)\\(([^)]*)\\)[^;{}=]*\\{(?s:.*?)^\\1\\}")
                .matcher(code);
        int methods = 0;
        while (method.find()) {
            methods++;
            String name = method.group(2);
            long lines = method.group().lines().count();
            Expect.same(name + ": lines " + lines, lines <= MOST_LINES ? 1 : 0, 1);
            int parameters = method.group(3).split(",").length;
            Expect.same(name + ": parameters", parameters <= MOST_PARAMETERS ? 1 : 0, 1);
        }
        Expect.same("methods were seen: " + methods, methods >= 60 ? 1 : 0, 1);
    }

    /** Rule 11, and rule 5 on what is static. */
    private static void classes() {
        List<Class<?>> all = new ArrayList<>(List.of(QuiltDesk.class.getDeclaredClasses()));
        all.add(QuiltDesk.class);
        Expect.same("classes", all.size() <= MOST_CLASSES ? 1 : 0, 1);
        for (Class<?> type : all) {
            int fields = 0;
            for (Field field : type.getDeclaredFields()) {
                if (Modifier.isStatic(field.getModifiers())) {
                    boolean constant = Modifier.isFinal(field.getModifiers())
                            && field.getType() == int.class;
                    Expect.same("a constant: " + field, constant ? 1 : 0, 1);
                } else {
                    fields++;
                }
            }
            Expect.same("fields of " + type, fields <= MOST_FIELDS ? 1 : 0, 1);
        }
    }

    /** Rule 12: what a desk holds that has kept all it may is small, and no call makes it grow. */
    private static void room() {
        QuiltDesk desk = new QuiltDesk();
        for (int block = 0; block < 10; block++) {
            Sketch.keepHalves(desk, block, block + 1);
        }
        int before = elements(desk, Collections.newSetFromMap(new IdentityHashMap<>()));
        Expect.same("elements " + before, before <= 20_000 ? 1 : 0, 1);
        for (int place = 0; place < 36; place++) {
            desk.place(place / 6, place % 6, place % 10, place % 8);
        }
        for (int cloth = 0; cloth < 12; cloth++) {
            desk.frame(cloth % 2, 60, cloth);
            desk.need(cloth, 0);
            desk.piece();
        }
        int after = elements(desk, Collections.newSetFromMap(new IdentityHashMap<>()));
        Expect.same("elements after more calls", after, before);
    }

    /** The fields and elements of an object and of all that it holds. */
    private static int elements(Object holder, Set<Object> seen) {
        if (holder == null || !seen.add(holder)) {
            return 0;
        }
        if (holder.getClass().isArray()) {
            int sum = Array.getLength(holder);
            for (int i = 0; holder instanceof Object[] held && i < held.length; i++) {
                sum += elements(held[i], seen);
            }
            return sum;
        }
        int sum = 0;
        for (Field field : holder.getClass().getDeclaredFields()) {
            if (!Modifier.isStatic(field.getModifiers())) {
                sum++;
                sum += field.getType().isPrimitive() ? 0 : elements(value(field, holder), seen);
            }
        }
        return sum;
    }

    private static Object value(Field field, Object holder) {
        try {
            field.setAccessible(true);
            return field.get(holder);
        } catch (IllegalAccessException e) {
            throw new IllegalStateException(e);
        }
    }
}
