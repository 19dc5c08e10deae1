import java.lang.reflect.Constructor;
import java.lang.reflect.Field;
import java.lang.reflect.Method;
import java.lang.reflect.Modifier;
import java.util.ArrayList;
import java.util.Arrays;
import java.util.List;

/** The public face: what the document shows of it, and nothing beside. */
public final class FaceTest extends Bench {
    private static final String[] FACE = {
        "int about(int, int) throws IndexOutOfBoundsException, IllegalArgumentException",
        "void again(int) throws IndexOutOfBoundsException, IllegalStateException",
        "void array(int, int) throws IllegalArgumentException",
        "void call(int, int) throws IllegalArgumentException, IllegalStateException",
        "int cell(int, int, int, int) throws IndexOutOfBoundsException, IllegalArgumentException",
        "void drop() throws IllegalStateException",
        "int letter(int, int, int, int) throws IndexOutOfBoundsException",
        "void number(double) throws IllegalStateException",
        "void operate(int) throws IllegalArgumentException",
        "void plain(int, int) throws IllegalArgumentException, IllegalStateException",
        "int size() throws ",
        "void text() throws IllegalStateException",
        "int type(int) throws IllegalArgumentException, IllegalStateException",
        "double value(int, int, int) throws IndexOutOfBoundsException"};

    private FaceTest() {
    }

    public static void main(String[] args) {
        check("modifiers of the class", Modifier.toString(ValueAlgebra.class.getModifiers()), "public final");
        methods();
        fields();
        constructors();
        classesInside();
        end("FaceTest");
    }

    private static void methods() {
        List<String> seen = new ArrayList<>();
        for (Method method : ValueAlgebra.class.getDeclaredMethods()) {
            if (Modifier.isPublic(method.getModifiers())) {
                seen.add(method.getReturnType() + " " + method.getName() + parameters(method.getParameterTypes())
                        + " throws " + thrown(method.getExceptionTypes()));
            } else {
                check(method + " is private", Modifier.isPrivate(method.getModifiers()), true);
                check(method + " has a public one's name", isOfFace(method.getName()), false);
            }
        }
        seen.sort((a, b) -> a.substring(a.indexOf(' ')).compareTo(b.substring(b.indexOf(' '))));
        check("public methods", String.join("; ", seen), String.join("; ", FACE));
    }

    private static String parameters(Class<?>[] types) {
        return Arrays.toString(types).replace('[', '(').replace(']', ')');
    }

    private static String thrown(Class<?>[] types) {
        List<String> names = new ArrayList<>();
        for (Class<?> type : types) {
            names.add(type.getSimpleName());
        }
        return String.join(", ", names);
    }

    private static boolean isOfFace(String name) {
        for (String method : FACE) {
            if (method.contains(" " + name + "(")) {
                return true;
            }
        }
        return false;
    }

    private static void fields() {
        for (Field field : ValueAlgebra.class.getDeclaredFields()) {
            boolean isPublic = field.getName().equals("NONE");
            check(field + " is public", Modifier.isPublic(field.getModifiers()), isPublic);
            check(field + " is private", Modifier.isPrivate(field.getModifiers()), !isPublic);
        }
        check("NONE", ValueAlgebra.NONE, -1);
    }

    private static void constructors() {
        Constructor<?>[] all = ValueAlgebra.class.getDeclaredConstructors();
        check("constructors", all.length, 1);
        check("the constructor", Modifier.toString(all[0].getModifiers()) + parameters(all[0].getParameterTypes()), "public()");
    }

    private static void classesInside() {
        for (Class<?> inside : ValueAlgebra.class.getDeclaredClasses()) {
            check(inside + " is public or protected",
                    Modifier.isPublic(inside.getModifiers()) || Modifier.isProtected(inside.getModifiers()), false);
            for (Method method : inside.getDeclaredMethods()) {
                check(method + " has a public one's name", isOfFace(method.getName()), false);
            }
        }
    }
}
