import java.lang.reflect.Constructor;
import java.lang.reflect.Field;
import java.lang.reflect.Member;
import java.lang.reflect.Method;
import java.lang.reflect.Modifier;
import java.util.Arrays;
import java.util.Set;
import java.util.TreeSet;
import java.util.stream.Collectors;

/** The public face is the document's, and there is nothing beside it that others can see. */
public final class FaceTest {
    private static final Class<?> FACE = CosetTables.class;

    private static final Set<String> METHODS = Set.of(
            "letter(int)", "clear()", "invert()", "relate()", "drop(int)", "word()", "tables(int)",
            "image(int, int, int, int)", "actions(int)", "even(int)", "kinds(int)", "period(int, int)",
            "fixing(int)", "still()", "cyclic(int)");

    private static final Set<String> CONSTANTS = Set.of("BAD_ARG", "FULL", "NONE");

    public static void main(String[] args) {
        shape();
        methods();
        fields();
        Due.end();
    }

    private static void shape() {
        Due.holds("the class is public and final", Modifier.isPublic(FACE.getModifiers())
                && Modifier.isFinal(FACE.getModifiers()));
        Due.same("nested classes", FACE.getDeclaredClasses().length, 0);
        Due.holds("it extends nothing and implements nothing",
                FACE.getSuperclass() == Object.class && FACE.getInterfaces().length == 0);
        Constructor<?>[] constructors = FACE.getDeclaredConstructors();
        Due.same("constructors", constructors.length, 1);
        Due.holds("the constructor is public and takes nothing",
                Modifier.isPublic(constructors[0].getModifiers()) && constructors[0].getParameterCount() == 0);
    }

    private static void methods() {
        Set<String> seen = new TreeSet<>();
        Set<String> publicNames = METHODS.stream().map(m -> m.replaceAll("\\(.*", "")).collect(Collectors.toSet());
        for (Method method : FACE.getDeclaredMethods()) {
            publicOrPrivate(method);
            if (Modifier.isPublic(method.getModifiers())) {
                seen.add(method.getName() + parameters(method));
                Due.holds(method + " answers an int", method.getReturnType() == int.class);
                Due.holds(method + " is not static", !Modifier.isStatic(method.getModifiers()));
            } else {
                Due.holds(method + " has a name of its own", !publicNames.contains(method.getName()));
            }
        }
        Due.holds("the methods are the document's, not " + seen, seen.equals(METHODS));
    }

    private static String parameters(Method method) {
        return Arrays.stream(method.getParameterTypes()).map(Class::getName).collect(Collectors.joining(", ", "(", ")"));
    }

    private static void publicOrPrivate(Member member) {
        int modifiers = member.getModifiers();
        Due.holds(member + " is public or private", Modifier.isPublic(modifiers) || Modifier.isPrivate(modifiers));
    }

    private static void fields() {
        Set<String> seen = new TreeSet<>();
        for (Field field : FACE.getDeclaredFields()) {
            int modifiers = field.getModifiers();
            publicOrPrivate(field);
            if (Modifier.isPublic(modifiers)) {
                seen.add(field.getName());
                Due.holds(field + " is a constant, an int", Modifier.isStatic(modifiers)
                        && Modifier.isFinal(modifiers) && field.getType() == int.class);
            }
        }
        Due.holds("the constants are the document's, not " + seen, seen.equals(CONSTANTS));
    }
}
