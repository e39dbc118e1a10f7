import java.io.IOException;
import java.lang.reflect.Constructor;
import java.lang.reflect.Field;
import java.lang.reflect.Member;
import java.lang.reflect.Method;
import java.lang.reflect.Modifier;
import java.nio.file.Files;
import java.nio.file.Path;
import java.util.Arrays;
import java.util.List;
import java.util.Set;
import java.util.TreeSet;
import java.util.regex.Matcher;
import java.util.regex.Pattern;
import java.util.stream.Collectors;

/** The public face is the document's, and what can be seen of LANGUAGE.md's rules from outside holds. */
public final class FaceTest {
    private static final Class<?> FACE = CosetTables.class;

    private static final Set<String> METHODS = Set.of(
            "letter(int)", "clear()", "invert()", "relate()", "drop(int)", "word()", "tables(int)",
            "image(int, int, int, int)", "actions(int)", "even(int)", "kinds(int)", "period(int, int)",
            "fixing(int)", "still()", "cyclic(int)");

    private static final Set<String> CONSTANTS = Set.of("BAD_ARG", "FULL", "NONE");

    private static final List<Class<?>> TYPES = List.of(
            int.class, long.class, short.class, byte.class, char.class, boolean.class,
            int[].class, long[].class, short[].class, byte[].class, char[].class, boolean[].class);

    private static final List<String> WORDS_NOT_USED = List.of(
            "import", "package", "throw", "throws", "try", "catch", "synchronized", "assert", "instanceof",
            "null", "float", "double", "String", "Math", "Integer", "Long", "System", "Arrays", "Object",
            "interface", "enum", "record", "super", "var");

    public static void main(String[] args) throws IOException {
        shape();
        methods();
        fields();
        source();
        Due.end();
    }

    private static void shape() {
        Due.holds("the class is public and final", Modifier.isPublic(FACE.getModifiers())
                && Modifier.isFinal(FACE.getModifiers()));
        Due.same("nested classes", FACE.getDeclaredClasses().length, 0);
        Due.holds("it extends nothing and implements nothing",
                FACE.getSuperclass() == Object.class && FACE.getInterfaces().length == 0);
        Constructor<?>[] constructors = FACE.getDeclaredConstructors();
        Due.same("constructors", constructors.length, 1);
        Due.holds("the constructor is public and takes nothing",
                Modifier.isPublic(constructors[0].getModifiers()) && constructors[0].getParameterCount() == 0);
    }

    private static void methods() {
        Set<String> seen = new TreeSet<>();
        Set<String> publicNames = METHODS.stream().map(m -> m.replaceAll("\\(.*", "")).collect(Collectors.toSet());
        for (Method method : FACE.getDeclaredMethods()) {
            publicOrPrivate(method);
            Due.holds(method + " takes at most seven", method.getParameterCount() <= 7);
            Due.holds(method + " answers no array", !method.getReturnType().isArray());
            if (Modifier.isPublic(method.getModifiers())) {
                seen.add(method.getName() + parameters(method));
                Due.holds(method + " answers an int", method.getReturnType() == int.class);
                Due.holds(method + " is not static", !Modifier.isStatic(method.getModifiers()));
            } else {
                Due.holds(method + " has a name of its own", !publicNames.contains(method.getName()));
            }
        }
        Due.holds("the methods are the document's, not " + seen, seen.equals(METHODS));
    }

    private static String parameters(Method method) {
        return Arrays.stream(method.getParameterTypes()).map(Class::getName).collect(Collectors.joining(", ", "(", ")"));
    }

    private static void publicOrPrivate(Member member) {
        int modifiers = member.getModifiers();
        Due.holds(member + " is public or private", Modifier.isPublic(modifiers) || Modifier.isPrivate(modifiers));
    }

    private static void fields() {
        Set<String> seen = new TreeSet<>();
        int held = 0;
        for (Field field : FACE.getDeclaredFields()) {
            int modifiers = field.getModifiers();
            publicOrPrivate(field);
            Due.holds(field + " is of an allowed type", TYPES.contains(field.getType()));
            if (Modifier.isStatic(modifiers)) {
                Due.holds(field + " is a constant", Modifier.isFinal(modifiers)
                        && (field.getType() == int.class || field.getType() == long.class));
            } else {
                held++;
            }
            if (Modifier.isPublic(modifiers)) {
                seen.add(field.getName());
            }
        }
        Due.holds("at most forty fields", held <= 40);
        Due.holds("the constants are the document's, not " + seen, seen.equals(CONSTANTS));
    }

    private static void source() throws IOException {
        String text = Files.readString(Path.of("src/main/java/CosetTables.java"));
        String code = text.replaceAll("(?s)/\\*.*?\\*/", "").replaceAll("//[^\n]*", "");
        for (String word : WORDS_NOT_USED) {
            Due.holds("'" + word + "' is not used", !Pattern.compile("\\b" + word + "\\b").matcher(code).find());
        }
        Due.holds("no lambda, method reference, string or two-dimensional array",
                !Pattern.compile("->|::|\"|\\[\\s*\\]\\s*\\[").matcher(code).find());
        Matcher made = Pattern.compile("(?m)^.*\\bnew\\b.*$").matcher(code);
        while (made.find()) {
            Due.holds("made in a field's initialiser, with a constant length: " + made.group(),
                    made.group().matches("    private final \\w+\\[\\] \\w+ = new \\w+\\[[A-Z_]+\\];"));
        }
        for (String method : code.split("\n    }\n")) {
            Due.holds("at most sixty lines: " + method, method.strip().split("\n").length <= 60);
        }
    }
}
