import java.lang.reflect.Constructor;
import java.lang.reflect.Field;
import java.lang.reflect.Method;
import java.lang.reflect.Modifier;
import java.util.Arrays;
import java.util.TreeSet;
import java.util.stream.Collectors;
import java.util.stream.Stream;

/** The face is the document's, and nothing else of the class is seen from outside. */
public final class FaceTest {
    private FaceTest() {
    }

    public static void main(String[] args) {
        Checks.due("the class", Modifier.toString(PathTexts.class.getModifiers()), "public final");
        Checks.due("methods", seenMethods(), new TreeSet<>(Arrays.asList(
            "int text(long) IllegalArgumentException,UnsupportedOperationException",
            "int read() ",
            "int move(int,int) IllegalArgumentException,UnsupportedOperationException",
            "int line(int,int) IllegalArgumentException,IllegalStateException,UnsupportedOperationException",
            "int cubic(int,int,int,int,int,int) IllegalArgumentException,IllegalStateException,UnsupportedOperationException",
            "int close() IllegalStateException,UnsupportedOperationException",
            "int command(int) IndexOutOfBoundsException",
            "int number(int,int) IndexOutOfBoundsException",
            "int write() ",
            "int charAt(int) IndexOutOfBoundsException",
            "int render(int,int,int) IllegalArgumentException",
            "int covered(int,int) IndexOutOfBoundsException",
            "int bound(int) ",
            "int told(int) ",
            "void clear() ")));
        Checks.due("fields", seenFields(), new TreeSet<>(Arrays.asList("public static final int NONE")));
        Checks.due("constructors", seenConstructors(), new TreeSet<>(Arrays.asList("public 0")));
        Checks.due("NONE", PathTexts.NONE, -1);
        Checks.end();
    }

    private static TreeSet<String> seenMethods() {
        TreeSet<String> seen = new TreeSet<>();
        for (Method method : PathTexts.class.getDeclaredMethods()) {
            if (!Modifier.isPrivate(method.getModifiers())) {
                seen.add(method.getReturnType() + " " + method.getName() + "("
                    + names(method.getParameterTypes()) + ") " + names(method.getExceptionTypes()));
            }
        }
        return seen;
    }

    private static TreeSet<String> seenFields() {
        TreeSet<String> seen = new TreeSet<>();
        for (Field field : PathTexts.class.getDeclaredFields()) {
            if (!Modifier.isPrivate(field.getModifiers())) {
                seen.add(Modifier.toString(field.getModifiers()) + " " + field.getType() + " " + field.getName());
            }
        }
        return seen;
    }

    private static TreeSet<String> seenConstructors() {
        TreeSet<String> seen = new TreeSet<>();
        for (Constructor<?> constructor : PathTexts.class.getDeclaredConstructors()) {
            seen.add(Modifier.toString(constructor.getModifiers()) + " " + constructor.getParameterCount());
        }
        return seen;
    }

    private static String names(Class<?>[] classes) {
        return Stream.of(classes).map(Class::getSimpleName).collect(Collectors.joining(","));
    }
}
