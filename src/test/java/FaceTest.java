import java.lang.reflect.Constructor;
import java.lang.reflect.Field;
import java.lang.reflect.Method;
import java.lang.reflect.Modifier;
import java.util.Arrays;
import java.util.Set;
import java.util.TreeSet;

/** The public face, no more and no less. */
public final class FaceTest {
    private static final String CONSTANTS = "NONE -1, BOX 0, TEXT 1, COLUMN 2, ROW 3, GRID 4, GROW 0, SHRINK 1, BASIS 2, LEAST 3, "
        + "MOST 4, ALIGN 5, ORDER 6, HIDDEN 7, WIDE 8, HIGH 9, GAP 10, PAD 11, JUSTIFY 12, WRAP 13, STRETCH 0, START 1, "
        + "CENTRE 2, END 3, BETWEEN 0";
    private static final String[] METHODS = {
        "int node(int, int) IllegalArgumentException IllegalStateException",
        "int remove(int) IllegalArgumentException",
        "void set(int, int, int) IllegalArgumentException",
        "int word(int, int) IllegalArgumentException IllegalStateException",
        "int track(int, boolean, int) IllegalArgumentException IllegalStateException",
        "int layout(int) IllegalArgumentException IllegalStateException",
        "int where(int, int) IllegalArgumentException",
        "int lines(int) IllegalArgumentException",
        "int at(int, int)",
        "int natural(int) IllegalArgumentException",
        "int nodes()"
    };

    public static void main(String[] args) throws IllegalAccessException {
        Class<?> face = StretchedRows.class;
        Check.same("the class", Modifier.toString(face.getModifiers()), "public final");
        constants(face);
        methods(face);
        constructors(face);
        nestedClasses(face);
        Check.end("FaceTest");
    }

    private static void constants(Class<?> face) throws IllegalAccessException {
        Set<String> got = new TreeSet<>();
        for (Field field : face.getDeclaredFields()) {
            if (!Modifier.isPrivate(field.getModifiers())) {
                Check.same(field.getName(), Modifier.toString(field.getModifiers()) + " " + field.getType(), "public static final int");
                got.add(field.getName() + " " + field.getInt(null));
            } else if (Modifier.isStatic(field.getModifiers())) {
                Check.isTrue(field.getName() + " is final", Modifier.isFinal(field.getModifiers()));
            }
        }
        Check.same("the constants", got.toString(), new TreeSet<>(Arrays.asList(CONSTANTS.split(", "))).toString());
    }

    private static void methods(Class<?> face) {
        Set<String> got = new TreeSet<>();
        Set<String> names = new TreeSet<>();
        for (Method method : face.getDeclaredMethods()) {
            if (!Modifier.isPrivate(method.getModifiers())) {
                got.add(told(method));
                names.add(method.getName());
            }
        }
        Check.same("the methods", got.toString(), new TreeSet<>(Arrays.asList(METHODS)).toString());
        for (Method method : face.getDeclaredMethods()) {
            boolean hidden = Modifier.isPrivate(method.getModifiers());
            Check.isTrue(method + " bears the name of a public one", !hidden || !names.contains(method.getName()));
        }
    }

    private static String told(Method method) {
        StringBuilder all = new StringBuilder(method.getReturnType().getName()).append(' ').append(method.getName()).append('(');
        for (Class<?> type : method.getParameterTypes()) {
            all.append(all.charAt(all.length() - 1) == '(' ? "" : ", ").append(type.getName());
        }
        all.append(')');
        for (Class<?> type : method.getExceptionTypes()) {
            all.append(' ').append(type.getSimpleName());
        }
        return all.toString();
    }

    private static void constructors(Class<?> face) {
        Constructor<?>[] made = face.getDeclaredConstructors();
        Check.same("constructors", made.length, 1);
        Check.same("the constructor", made[0].toString(), "public StretchedRows()");
    }

    private static void nestedClasses(Class<?> face) {
        Check.isTrue("some twelve classes", face.getDeclaredClasses().length <= 12);
        for (Class<?> inside : face.getDeclaredClasses()) {
            int modifiers = inside.getModifiers();
            Check.isTrue(inside + " is static", Modifier.isStatic(modifiers));
            Check.isTrue(inside + " is not public", !Modifier.isPublic(modifiers) && !Modifier.isProtected(modifiers));
            Check.isTrue(inside + " has some twenty fields", inside.getDeclaredFields().length <= 20);
            for (Field field : inside.getDeclaredFields()) {
                Check.isTrue(field + " is static state", !Modifier.isStatic(field.getModifiers()));
            }
        }
    }
}
