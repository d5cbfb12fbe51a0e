import java.lang.reflect.Constructor;
import java.lang.reflect.Field;
import java.lang.reflect.Method;
import java.lang.reflect.Modifier;
import java.util.Arrays;
import java.util.Set;
import java.util.TreeSet;

// The face of the class is the document's and no more; the fields and types are those that LANGUAGE.md leaves.
public final class FaceTest {
    private static final Set<String> FACE = Set.of(
        "BAD_ARG = -1", "NONE = -4", "CompressedSwap()",
        "int write(3)", "int read(2)", "int fill(4)", "int copy(2)", "int exchange(2)", "int move(4)",
        "int mix(2)", "int drop(1)", "int sum(1)", "int differ(2)", "int find(3)", "int blank(0)",
        "int twin(1)", "int away(1)", "void flush(1)", "void rest(1)");

    private static int wrong = 0;

    private static void check(boolean holds, String what) {
        if (!holds) {
            wrong++;
            System.out.println("not so: " + what);
        }
    }

    private static Set<String> face(Class<?> type) throws IllegalAccessException {
        Set<String> seen = new TreeSet<>();
        for (Field field : type.getDeclaredFields()) {
            if (!Modifier.isPrivate(field.getModifiers())) {
                check(field.getModifiers() == (Modifier.PUBLIC | Modifier.STATIC | Modifier.FINAL), "constant: " + field);
                seen.add(field.getName() + " = " + field.get(null));
            }
        }
        for (Constructor<?> made : type.getDeclaredConstructors()) {
            check(made.getModifiers() == Modifier.PUBLIC && made.getParameterCount() == 0, "constructor: " + made);
            seen.add(type.getName() + "()");
        }
        for (Method method : type.getDeclaredMethods()) {
            if (!Modifier.isPrivate(method.getModifiers())) {
                check(method.getModifiers() == Modifier.PUBLIC, "public and no more: " + method);
                check(Arrays.stream(method.getParameterTypes()).allMatch(t -> t == int.class), "takes ints: " + method);
                seen.add(method.getReturnType() + " " + method.getName() + "(" + method.getParameterCount() + ")");
            }
        }
        return seen;
    }

    private static boolean allowed(Class<?> type) {
        Class<?> base = type.isArray() ? type.getComponentType() : type;
        return base.isPrimitive() && base != float.class && base != double.class;
    }

    private static void fields(Class<?> type) {
        int held = 0;
        for (Field field : type.getDeclaredFields()) {
            check(allowed(field.getType()), "type of " + field);
            if (Modifier.isStatic(field.getModifiers())) {
                check(Modifier.isFinal(field.getModifiers()), "final: " + field);
                check(field.getType() == int.class || field.getType() == long.class, "int or long: " + field);
            } else {
                held++;
            }
        }
        check(held <= 40, "at most forty fields");
    }

    private static void methods(Class<?> type) {
        Set<String> names = new TreeSet<>();
        for (Method method : type.getDeclaredMethods()) {
            check(names.add(method.getName()), "one method of the name " + method.getName());
            check(method.getParameterCount() <= 7, "at most seven parameters: " + method);
            check(!method.getReturnType().isArray(), "answers no array: " + method);
            check(allowed(method.getReturnType()), "type of " + method);
        }
    }

    public static void main(String[] args) throws IllegalAccessException {
        Class<?> type = CompressedSwap.class;
        check(type.getModifiers() == (Modifier.PUBLIC | Modifier.FINAL), "public and final class");
        check(type.getPackageName().isEmpty(), "no package");
        check(type.getSuperclass() == Object.class && type.getInterfaces().length == 0, "no parents");
        check(type.getDeclaredClasses().length == 0, "no nested class");
        Set<String> seen = face(type);
        check(seen.equals(FACE), "the face is the document's, seen: " + seen);
        fields(type);
        methods(type);
        System.out.println(wrong == 0 ? "the face is as due" : wrong + " things are not as due");
        if (wrong != 0) {
            System.exit(1);
        }
    }
}
