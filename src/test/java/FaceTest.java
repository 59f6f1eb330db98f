import java.lang.reflect.Constructor;
import java.lang.reflect.Field;
import java.lang.reflect.Method;
import java.lang.reflect.Modifier;
import java.util.Arrays;
import java.util.Set;
import java.util.TreeSet;

/** The public face is the document's, and the class keeps what LANGUAGE.md says of members. */
public final class FaceTest {
    private static final Checks CHECKS = new Checks();

    public static void main(String[] args) {
        Class<?> face = ImpreciseDesk.class;
        CHECKS.due("public", Modifier.isPublic(face.getModifiers()), true);
        CHECKS.due("final", Modifier.isFinal(face.getModifiers()), true);
        CHECKS.due("no package", face.getPackageName().isEmpty(), true);
        CHECKS.due("nested classes", face.getDeclaredClasses().length, 0);
        CHECKS.due("BAD", ImpreciseDesk.BAD, -1);
        CHECKS.due("FULL", ImpreciseDesk.FULL, -2);
        CHECKS.due("REFUSED", ImpreciseDesk.REFUSED, -3);
        CHECKS.due("NONE", ImpreciseDesk.NONE, -1);
        constructors(face);
        methods(face);
        fields(face);
        CHECKS.end();
    }

    private static void constructors(Class<?> face) {
        Constructor<?>[] all = face.getDeclaredConstructors();
        CHECKS.due("constructors", all.length, 1);
        CHECKS.due("public constructor", Modifier.isPublic(all[0].getModifiers()), true);
        CHECKS.due("arguments of the constructor", all[0].getParameterCount(), 0);
    }

    private static void methods(Class<?> face) {
        Set<String> want = new TreeSet<>(Arrays.asList(
                "int bring[int, int, int]", "boolean take[int]", "int block[int, boolean]",
                "int change[int, int]", "int tasks[]", "int blocked[]", "int loss[]",
                "int kept[int]", "int at[int]", "int greatestMust[int]", "int lossWithout[int]",
                "int freeable[int, int]", "int idle[]"));
        Set<String> open = new TreeSet<>();
        Set<String> openNames = new TreeSet<>();
        Set<String> privateNames = new TreeSet<>();
        for (Method method : face.getDeclaredMethods()) {
            if (Modifier.isPrivate(method.getModifiers())) {
                privateNames.add(method.getName());
            } else {
                open.add(method.getReturnType() + " " + method.getName()
                        + Arrays.toString(method.getParameterTypes()));
                openNames.add(method.getName());
                CHECKS.due("public and not static: " + method,
                        method.getModifiers(), Modifier.PUBLIC);
            }
            CHECKS.due("at most seven parameters: " + method, method.getParameterCount() <= 7, true);
        }
        CHECKS.due("methods are " + open, open.equals(want), true);
        openNames.retainAll(privateNames);
        CHECKS.due("private methods with public names " + openNames, openNames.size(), 0);
    }

    private static void fields(Class<?> face) {
        Set<String> open = new TreeSet<>();
        for (Field field : face.getDeclaredFields()) {
            int modifiers = field.getModifiers();
            Class<?> type = field.getType();
            if (!Modifier.isPrivate(modifiers)) {
                open.add(field.getName());
                CHECKS.due("a constant: " + field, modifiers,
                        Modifier.PUBLIC | Modifier.STATIC | Modifier.FINAL);
            }
            if (Modifier.isStatic(modifiers)) {
                CHECKS.due("final: " + field, Modifier.isFinal(modifiers), true);
                CHECKS.due("int or long: " + field, type == int.class || type == long.class, true);
            }
            Class<?> plain = type.isArray() ? type.getComponentType() : type;
            CHECKS.due("plain type: " + field, plain.isPrimitive()
                    && plain != float.class && plain != double.class, true);
        }
        CHECKS.due("open fields are " + open,
                open.equals(Set.of("BAD", "FULL", "REFUSED", "NONE")), true);
    }
}
