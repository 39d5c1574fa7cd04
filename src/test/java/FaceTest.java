import java.lang.reflect.Constructor;
import java.lang.reflect.Field;
import java.lang.reflect.Method;
import java.lang.reflect.Modifier;
import java.util.Set;
import java.util.TreeSet;

/** The document's public face, and rule 1 of LANGUAGE.md. */
public final class FaceTest {
    private static final String[] FACE = {
        "void corner(int,int,int,int) throws N A",
        "int close(int,int,int) throws N A",
        "boolean open(int) throws N",
        "int clear()",
        "int check()",
        "int clash(int) throws N",
        "int piece()",
        "int seam(int,int) throws N A",
        "int keep() throws S",
        "int place(int,int,int,int) throws N A",
        "int frame(int,int,int) throws N A",
        "int mismatch(int,int) throws N",
        "int swap(int,int) throws N",
        "int area(int) throws N",
        "int need(int,int) throws N A",
        "int cut(int,int,int) throws N A",
        "int count(int) throws A",
    };

    public static void main(String[] args) {
        int type = QuiltDesk.class.getModifiers();
        Expect.same("public and final",
                Modifier.isPublic(type) && Modifier.isFinal(type) ? 1 : 0, 1);
        methods();
        fields();
        constructors();
        inside();
        Expect.finish("FaceTest");
    }

    private static void methods() {
        Set<String> names = new TreeSet<>();
        Set<String> missing = new TreeSet<>(Set.of(FACE));
        for (Method method : QuiltDesk.class.getDeclaredMethods()) {
            if (Modifier.isPublic(method.getModifiers())) {
                Expect.same("of the face: " + text(method),
                        missing.remove(text(method)) ? 1 : 0, 1);
                names.add(method.getName());
            }
        }
        Expect.same("not there: " + missing, missing.size(), 0);
        for (Method method : QuiltDesk.class.getDeclaredMethods()) {
            if (!Modifier.isPublic(method.getModifiers())) {
                Expect.same("private: " + method,
                        Modifier.isPrivate(method.getModifiers()) ? 1 : 0, 1);
                Expect.same("its own name: " + method, names.contains(method.getName()) ? 1 : 0, 0);
            }
        }
    }

    private static String text(Method method) {
        StringBuilder text = new StringBuilder();
        text.append(method.getReturnType()).append(' ').append(method.getName()).append('(');
        for (int i = 0; i < method.getParameterCount(); i++) {
            text.append(i == 0 ? "" : ",").append(method.getParameterTypes()[i]);
        }
        text.append(')');
        Class<?>[] thrown = method.getExceptionTypes();
        for (int i = 0; i < thrown.length; i++) {
            text.append(i == 0 ? " throws " : " ").append(letter(thrown[i]));
        }
        return text.toString();
    }

    private static String letter(Class<?> thrown) {
        return thrown == Expect.NO_SUCH ? "N" : thrown == Expect.ARGUMENT ? "A"
                : thrown == Expect.STATE ? "S" : thrown.getName();
    }

    private static void fields() {
        for (Field field : QuiltDesk.class.getDeclaredFields()) {
            boolean isNone = field.getName().equals("NONE");
            int modifiers = field.getModifiers();
            Expect.same("public: " + field, Modifier.isPublic(modifiers) ? 1 : 0, isNone ? 1 : 0);
            Expect.same("private: " + field, Modifier.isPrivate(modifiers) ? 1 : 0,
                    isNone ? 0 : 1);
            Expect.same("no static state: " + field,
                    Modifier.isStatic(modifiers) && !Modifier.isFinal(modifiers) ? 1 : 0, 0);
        }
    }

    private static void constructors() {
        Constructor<?>[] all = QuiltDesk.class.getDeclaredConstructors();
        Expect.same("constructors", all.length, 1);
        Expect.same("its parameters", all[0].getParameterCount(), 0);
        Expect.same("it is public", Modifier.isPublic(all[0].getModifiers()) ? 1 : 0, 1);
    }

    private static void inside() {
        for (Class<?> type : QuiltDesk.class.getDeclaredClasses()) {
            int modifiers = type.getModifiers();
            Expect.same("static: " + type, Modifier.isStatic(modifiers) ? 1 : 0, 1);
            Expect.same("not public: " + type,
                    Modifier.isPublic(modifiers) || Modifier.isProtected(modifiers) ? 1 : 0, 0);
            for (Field field : type.getDeclaredFields()) {
                boolean state = Modifier.isStatic(field.getModifiers())
                        && !Modifier.isFinal(field.getModifiers());
                Expect.same("no static state: " + field, state ? 1 : 0, 0);
            }
        }
    }
}
