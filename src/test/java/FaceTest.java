import java.lang.reflect.Constructor;
import java.lang.reflect.Field;
import java.lang.reflect.Method;
import java.lang.reflect.Modifier;
import java.util.Arrays;
import java.util.TreeSet;

/** The public face, and that nothing else can be seen from outside. */
public final class FaceTest {
    private static final Checks CHECKS = new Checks();

    public static void main(String[] args) {
        publicMethods();
        exceptions();
        constructors();
        nothingElse();
        CHECKS.end();
    }

    private static void publicMethods() {
        TreeSet<String> want = new TreeSet<>(Arrays.asList(
                "int relation(int, boolean, int, int)", "boolean type(char)", "boolean sound(int)", "int accept()",
                "int change(boolean, int, int, int, int, int)", "int commit(int)", "void crash()", "int latest()",
                "int records()", "int tuples(int)", "boolean check(int, int, int, int)", "int expand(int, int, int)",
                "int lookup(int, int, int)", "boolean nested(int, int, int, int, int)", "int watch(int)",
                "int watched(int, int, int)"));
        TreeSet<String> got = new TreeSet<>();
        for (Method method : RelationStore.class.getDeclaredMethods()) {
            if (!Modifier.isPrivate(method.getModifiers())) {
                String parameters = Arrays.toString(method.getParameterTypes());
                got.add(method.getReturnType() + " " + method.getName()
                        + "(" + parameters.substring(1, parameters.length() - 1) + ")");
            }
        }
        CHECKS.due("methods", want, () -> got);
    }

    private static void exceptions() {
        for (Method method : RelationStore.class.getDeclaredMethods()) {
            if (Modifier.isPublic(method.getModifiers())) {
                String want = switch (method.getName()) {
                    case "relation", "type", "sound", "crash", "latest", "records" -> "";
                    case "accept", "change" -> "UnsupportedOperation IllegalArgument IllegalState ";
                    case "commit" -> "IllegalState ";
                    default -> "IllegalArgument IllegalState ";
                };
                StringBuilder got = new StringBuilder();
                for (Class<?> exception : method.getExceptionTypes()) {
                    got.append(exception.getSimpleName().replace("Exception", " "));
                }
                CHECKS.due("exceptions of " + method.getName(), want, () -> got.toString());
            }
        }
    }

    private static void constructors() {
        Constructor<?>[] all = RelationStore.class.getDeclaredConstructors();
        CHECKS.due("constructors", 1, () -> all.length);
        CHECKS.due("the constructor", "public RelationStore(int)", () -> all[0].toString());
        int modifiers = RelationStore.class.getModifiers();
        CHECKS.due("public and final", true, () -> Modifier.isPublic(modifiers) && Modifier.isFinal(modifiers));
    }

    private static void nothingElse() {
        for (Field field : RelationStore.class.getDeclaredFields()) {
            CHECKS.due(field + " is private", true, () -> Modifier.isPrivate(field.getModifiers()));
            CHECKS.due(field + " is final if static", true,
                    () -> !Modifier.isStatic(field.getModifiers()) || Modifier.isFinal(field.getModifiers()));
        }
        TreeSet<String> face = new TreeSet<>();
        for (Method method : RelationStore.class.getMethods()) {
            face.add(method.getName());
        }
        for (Class<?> inside : RelationStore.class.getDeclaredClasses()) {
            CHECKS.due(inside + " is private and static", true,
                    () -> Modifier.isPrivate(inside.getModifiers()) && Modifier.isStatic(inside.getModifiers()));
            for (Method method : inside.getDeclaredMethods()) {
                CHECKS.due(method + " has a name of its own", false, () -> face.contains(method.getName()));
            }
        }
    }
}
