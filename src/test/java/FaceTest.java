import java.lang.reflect.Constructor;
import java.lang.reflect.Field;
import java.lang.reflect.Member;
import java.lang.reflect.Method;
import java.lang.reflect.Modifier;
import java.util.Arrays;
import java.util.HashSet;
import java.util.Set;
import java.util.TreeSet;

/** The public face, to the letter, and what of the language rules can be seen from outside. */
public final class FaceTest {
    private static final Set<String> FACE = new TreeSet<>(Arrays.asList(
        "RootSums()", "int BAD_ARG", "int OVER", "int NONE",
        "int put(int,int,int)", "int whole(int,int)", "int part(int,int)",
        "int add(int,int,int)", "int subtract(int,int,int)", "int multiply(int,int,int)",
        "int divide(int,int,int)", "int conjugate(int,int,int)", "int sign(int)",
        "int compare(int,int)", "int floor(int)", "int degree(int)", "int positive(int)",
        "int ranked(int)", "int multipleFloor(int,int)", "boolean inverse(int,int)",
        "int norm(int)"));
    private static final Set<Class<?>> FIELD_TYPES = Set.of(
        int.class, long.class, short.class, byte.class, char.class, boolean.class,
        int[].class, long[].class, short[].class, byte[].class, char[].class, boolean[].class);

    public static void main(String[] args) {
        constants();
        face();
        rules();
        Due.end();
    }

    private static void constants() {
        Due.is("BAD_ARG", RootSums.BAD_ARG, -1000000);
        Due.is("OVER", RootSums.OVER, -2000000);
        Due.is("NONE", RootSums.NONE, -3000000);
    }

    private static void face() {
        Class<?> type = RootSums.class;
        Set<String> found = new TreeSet<>();
        for (Constructor<?> made : type.getDeclaredConstructors()) {
            addIfPublic(found, made, "RootSums" + parameters(made.getParameterTypes()));
        }
        for (Method method : type.getDeclaredMethods()) {
            addIfPublic(found, method, method.getReturnType().getName() + " " + method.getName()
                + parameters(method.getParameterTypes()));
        }
        for (Field field : type.getDeclaredFields()) {
            addIfPublic(found, field, field.getType().getName() + " " + field.getName());
        }
        Due.is("the face is " + found + ", which is that of the document", found.equals(FACE), true);
        Due.is("the class is public and final",
            type.getModifiers() == (Modifier.PUBLIC | Modifier.FINAL), true);
    }

    private static void addIfPublic(Set<String> found, Member member, String shown) {
        if (Modifier.isPublic(member.getModifiers())) {
            found.add(shown);
        } else {
            Due.is(shown + " is private", Modifier.isPrivate(member.getModifiers()), true);
        }
    }

    private static String parameters(Class<?>[] types) {
        StringBuilder shown = new StringBuilder("(");
        for (Class<?> type : types) {
            shown.append(shown.length() > 1 ? "," : "").append(type.getName());
        }
        return shown.append(")").toString();
    }

    private static void rules() {
        Class<?> type = RootSums.class;
        Due.is("nested classes", type.getDeclaredClasses().length, 0);
        Due.is("it extends Object alone", type.getSuperclass() == Object.class, true);
        Due.is("interfaces", type.getInterfaces().length, 0);
        Set<String> publicNames = new HashSet<>();
        for (Method method : type.getMethods()) {
            publicNames.add(method.getName());
        }
        for (Method method : type.getDeclaredMethods()) {
            String name = method.getName();
            Due.is(name + " has at most 7 parameters", method.getParameterCount() <= 7, true);
            Due.is(name + " bears a public name",
                Modifier.isPrivate(method.getModifiers()) && publicNames.contains(name), false);
        }
        for (Field field : type.getDeclaredFields()) {
            String name = field.getName();
            Due.is(name + " has a type of the rules", FIELD_TYPES.contains(field.getType()), true);
            boolean number = field.getType() == int.class || field.getType() == long.class;
            Due.is(name + " is, if static, a constant number", !Modifier.isStatic(field.getModifiers())
                || (number && Modifier.isFinal(field.getModifiers())), true);
        }
    }
}
