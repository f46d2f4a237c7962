import java.lang.reflect.Constructor;
import java.lang.reflect.Executable;
import java.lang.reflect.Field;
import java.lang.reflect.Method;
import java.lang.reflect.Modifier;
import java.util.Set;
import java.util.TreeSet;

/** The public face is the document's, to the throws clauses, and nothing else can be seen. */
public final class FaceTest {
    private static final String ARGUMENT = "IllegalArgumentException";
    private static final String INDEX = "IndexOutOfBoundsException";
    private static final String STATE = "IllegalStateException";
    private static final String UNSUPPORTED = "UnsupportedOperationException";

    public static void main(String[] args) {
        Check.same("the class's modifiers", Modifier.PUBLIC | Modifier.FINAL, EditRelay.class.getModifiers());
        Check.same("the package", "", EditRelay.class.getPackageName());
        constants();
        Check.same("the methods and the constructor", dueFace(), seenFace());
        Check.same("private methods with a public one's name", Set.of(), sharedNames());
        nestedClasses();
        Check.end("FaceTest");
    }

    private static void constants() {
        Check.same("INSERT", 0, EditRelay.INSERT);
        Check.same("DELETE", 1, EditRelay.DELETE);
        Check.same("NOTHING", 2, EditRelay.NOTHING);
        Set<String> seen = new TreeSet<>();
        for (Field field : EditRelay.class.getDeclaredFields()) {
            if (!Modifier.isPrivate(field.getModifiers())) {
                seen.add(Modifier.toString(field.getModifiers()) + " " + field.getType() + " " + field.getName());
            }
            if (Modifier.isStatic(field.getModifiers())) {
                Check.same(field.getName() + " is final", true, Modifier.isFinal(field.getModifiers()));
            }
        }
        Check.same("the fields", new TreeSet<>(Set.of("public static final int INSERT",
                "public static final int DELETE", "public static final int NOTHING")), seen);
    }

    private static Set<String> dueFace() {
        Set<String> due = new TreeSet<>();
        due.add("public new()");
        due.add(method("int insert(int, int, char)", ARGUMENT, INDEX, UNSUPPORTED));
        due.add(method("int delete(int, int)", ARGUMENT, INDEX, UNSUPPORTED));
        due.add(method("void nod(int)", ARGUMENT, UNSUPPORTED));
        due.add(method("int push(int)", ARGUMENT, STATE, UNSUPPORTED));
        due.add(method("int pull(int)", ARGUMENT, STATE));
        due.add(method("int waiting(int, boolean)", ARGUMENT));
        due.add(method("int got(int, boolean)", ARGUMENT));
        due.add(method("int open(int, boolean)", ARGUMENT));
        due.add(method("int change(int, boolean, int)", ARGUMENT, INDEX));
        due.add(method("int size(int)", ARGUMENT));
        due.add(method("int letter(int, int)", ARGUMENT, INDEX));
        due.add(method("boolean alike()"));
        due.add(method("boolean quiet()"));
        return due;
    }

    private static String method(String head, String... thrown) {
        return "public " + head + (thrown.length == 0 ? "" : " throws " + String.join(", ", thrown));
    }

    private static Set<String> seenFace() {
        Set<String> seen = new TreeSet<>();
        for (Constructor<?> constructor : EditRelay.class.getDeclaredConstructors()) {
            if (!Modifier.isPrivate(constructor.getModifiers())) {
                seen.add(told(constructor, "new"));
            }
        }
        for (Method method : EditRelay.class.getDeclaredMethods()) {
            if (!Modifier.isPrivate(method.getModifiers())) {
                seen.add(told(method, method.getReturnType() + " " + method.getName()));
            }
        }
        return seen;
    }

    private static String told(Executable executable, String name) {
        String head = Modifier.toString(executable.getModifiers()) + " " + name;
        String thrown = names(executable.getExceptionTypes());
        return head + "(" + names(executable.getParameterTypes()) + ")" + (thrown.isEmpty() ? "" : " throws " + thrown);
    }

    private static String names(Class<?>[] types) {
        StringBuilder names = new StringBuilder();
        for (Class<?> type : types) {
            names.append(names.length() == 0 ? "" : ", ").append(type.getSimpleName());
        }
        return names.toString();
    }

    private static Set<String> sharedNames() {
        Set<String> open = new TreeSet<>();
        Set<String> hidden = new TreeSet<>();
        for (Method method : EditRelay.class.getDeclaredMethods()) {
            (Modifier.isPrivate(method.getModifiers()) ? hidden : open).add(method.getName());
        }
        hidden.retainAll(open);
        return hidden;
    }

    private static void nestedClasses() {
        for (Class<?> nested : EditRelay.class.getDeclaredClasses()) {
            int seenOutside = nested.getModifiers() & (Modifier.PUBLIC | Modifier.PROTECTED);
            Check.same(nested.getSimpleName() + " is hidden", 0, seenOutside);
            Check.same(nested.getSimpleName() + " is static", true, Modifier.isStatic(nested.getModifiers()));
        }
    }
}
