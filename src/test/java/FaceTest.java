import java.lang.reflect.Constructor;
import java.lang.reflect.Field;
import java.lang.reflect.Method;
import java.lang.reflect.Modifier;
import java.util.Arrays;
import java.util.Set;
import java.util.TreeSet;
import java.util.stream.Collectors;

/** The class shows the document's face, and nothing else. */
public final class FaceTest {
    private static final Set<String> FACE = Set.of(
            "void machine(int, int) throws IndexOutOfBoundsException, IllegalArgumentException",
            "int edge(int, int, int, int, int, int) throws IndexOutOfBoundsException, IllegalArgumentException, "
                    + "UnsupportedOperationException",
            "void last(int, int, int, int) throws IndexOutOfBoundsException, IllegalArgumentException",
            "void first(int, int, int) throws IndexOutOfBoundsException, IllegalArgumentException",
            "int useful(int) throws IndexOutOfBoundsException",
            "int read(int, int, int, int) throws IndexOutOfBoundsException, IllegalArgumentException, "
                    + "UnsupportedOperationException",
            "boolean isFunction(int) throws IndexOutOfBoundsException",
            "boolean isSame(int, int) throws IndexOutOfBoundsException, IllegalStateException",
            "boolean isSteady(int) throws IndexOutOfBoundsException, IllegalStateException, "
                    + "UnsupportedOperationException",
            "int smallest(int) throws IndexOutOfBoundsException, IllegalStateException, "
                    + "UnsupportedOperationException",
            "int next(int, int) throws IllegalStateException, IllegalArgumentException",
            "boolean ends(int) throws IllegalStateException, IllegalArgumentException",
            "int count(int)",
            "int sign(int) throws IndexOutOfBoundsException");

    private FaceTest() {
    }

    private static String names(Class<?>[] types) {
        return Arrays.stream(types).map(Class::getSimpleName).collect(Collectors.joining(", "));
    }

    private static String textOf(Method method) {
        String thrown = names(method.getExceptionTypes());
        return method.getReturnType().getSimpleName() + " " + method.getName() + "(" + names(method.getParameterTypes())
                + ")" + (thrown.isEmpty() ? "" : " throws " + thrown);
    }

    public static void main(String[] args) {
        Check.equal("public and final", WriterDesk.class.getModifiers(), Modifier.PUBLIC | Modifier.FINAL);
        TreeSet<String> shown = new TreeSet<>();
        Set<String> names = FACE.stream().map(text -> text.replaceAll("^\\w+ (\\w+).*", "$1"))
                .collect(Collectors.toSet());
        for (Method method : WriterDesk.class.getDeclaredMethods()) {
            if (Modifier.isPrivate(method.getModifiers())) {
                Check.equal("private " + method.getName() + " has a face's name", names.contains(method.getName()),
                        false);
            } else if (!method.isSynthetic()) {
                Check.equal(method.getName() + " is public alone", method.getModifiers(), Modifier.PUBLIC);
                shown.add(textOf(method));
            }
        }
        Check.equal("methods", shown, new TreeSet<>(FACE));
        for (Field field : WriterDesk.class.getDeclaredFields()) {
            boolean none = field.getName().equals("NONE");
            Check.equal("field " + field.getName() + " is shown", !Modifier.isPrivate(field.getModifiers()), none);
            Check.equal("static field " + field.getName() + " is final", !Modifier.isStatic(field.getModifiers())
                    || Modifier.isFinal(field.getModifiers()), true);
        }
        Constructor<?>[] constructors = WriterDesk.class.getDeclaredConstructors();
        Check.equal("constructors", constructors.length, 1);
        Check.equal("the constructor is public", constructors[0].getModifiers(), Modifier.PUBLIC);
        for (Class<?> inside : WriterDesk.class.getDeclaredClasses()) {
            Check.equal(inside.getSimpleName() + " is static", Modifier.isStatic(inside.getModifiers()), true);
            Check.equal(inside.getSimpleName() + " is not shown", inside.getModifiers()
                    & (Modifier.PUBLIC | Modifier.PROTECTED), 0);
        }
        Check.finish();
    }
}
