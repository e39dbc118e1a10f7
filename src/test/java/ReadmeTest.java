import java.io.IOException;
import java.lang.reflect.Field;
import java.lang.reflect.Method;
import java.lang.reflect.Modifier;
import java.nio.file.Files;
import java.nio.file.Path;
import java.util.Arrays;
import java.util.List;
import java.util.Set;
import java.util.TreeSet;
import java.util.regex.Matcher;
import java.util.regex.Pattern;
import java.util.stream.Collectors;
import java.util.stream.Stream;

/** What README.md says of the class holds: the answers in its examples, its codes, its methods, its tests. */
public final class ReadmeTest {
    private static final Pattern EXAMPLE = Pattern.compile("(?s)```java\n(.*?)```");
    private static final Pattern CALL = Pattern.compile("x\\.(\\w+)\\(([-\\d, ]*)\\); +// (-?\\w+)(?:: .+)?");
    private static final Pattern ROW = Pattern.compile("(?m)^\\| `(\\w+)\\(([\\w, ]*)\\)` \\|");
    private static final Pattern CODE = Pattern.compile("`(\\w+)` \\((-\\d+)\\)");
    private static final Pattern TEST = Pattern.compile("`(src/test/java/\\w+\\.java)`");
    private static final String MAKING = "CosetTables x = new CosetTables();";

    private static final Set<String> called = new TreeSet<>();

    public static void main(String[] args) throws Exception {
        String text = Files.readString(Path.of("README.md"));
        examples(text);
        methods(text);
        codes(text);
        tests(text);
        Due.end();
    }

    private static void examples(String text) throws ReflectiveOperationException {
        Due.sentence("README: every answer in the examples");
        Matcher example = EXAMPLE.matcher(text);
        while (example.find()) {
            example(example.group(1));
        }
        Due.holds("every method is called in an example, not " + called + " alone", called.equals(publicMethods()));
    }

    /** Every line is run, so a line that cannot be read is wrong. */
    private static void example(String lines) throws ReflectiveOperationException {
        CosetTables x = null;
        for (String line : lines.split("\n")) {
            Matcher call = CALL.matcher(line);
            if (line.equals(MAKING)) {
                x = new CosetTables();
            } else if (call.matches() && x != null) {
                Due.same(line, answer(x, call.group(1), call.group(2)), number(call.group(3)));
                called.add(call.group(1));
            } else {
                Due.holds("a call with its answer: " + line, line.isEmpty());
            }
        }
    }

    private static int answer(CosetTables x, String name, String list) throws ReflectiveOperationException {
        Object[] arguments = split(list).stream().map(Integer::valueOf).toArray();
        Class<?>[] types = Arrays.stream(arguments).map(argument -> int.class).toArray(Class<?>[]::new);
        return (int) CosetTables.class.getMethod(name, types).invoke(x, arguments);
    }

    private static List<String> split(String list) {
        return list.isEmpty() ? List.of() : List.of(list.split(", "));
    }

    /** An answer is written as a number or as the name of a code. */
    private static int number(String answer) throws ReflectiveOperationException {
        return answer.matches("-?\\d+") ? Integer.parseInt(answer) : CosetTables.class.getField(answer).getInt(null);
    }

    private static Set<String> publicMethods() {
        return declared().map(Method::getName).collect(Collectors.toCollection(TreeSet::new));
    }

    private static Stream<Method> declared() {
        return Arrays.stream(CosetTables.class.getDeclaredMethods())
                .filter(method -> Modifier.isPublic(method.getModifiers()));
    }

    private static void methods(String text) {
        Due.sentence("README: what each method is for");
        Set<String> told = new TreeSet<>();
        Matcher row = ROW.matcher(text);
        while (row.find()) {
            told.add(row.group(1) + " " + split(row.group(2)).size());
        }
        Set<String> there = declared().map(method -> method.getName() + " " + method.getParameterCount())
                .collect(Collectors.toCollection(TreeSet::new));
        Due.holds("the methods, with how many arguments, are " + there + ", not " + told, told.equals(there));
    }

    private static void codes(String text) throws ReflectiveOperationException {
        Due.sentence("README: what the refusals mean");
        Set<String> told = new TreeSet<>();
        Matcher code = CODE.matcher(text);
        while (code.find()) {
            Due.same(code.group(1), Integer.parseInt(code.group(2)), number(code.group(1)));
            told.add(code.group(1));
        }
        Set<String> there = Arrays.stream(CosetTables.class.getFields()).map(Field::getName)
                .collect(Collectors.toCollection(TreeSet::new));
        Due.holds("the codes are " + there + ", not " + told, told.equals(there));
    }

    private static void tests(String text) throws IOException {
        Due.sentence("README: which tests are run");
        Set<String> told = new TreeSet<>();
        Matcher test = TEST.matcher(text);
        while (test.find()) {
            told.add(test.group(1));
        }
        try (Stream<Path> files = Files.list(Path.of("src/test/java"))) {
            Set<String> there = files.map(Path::toString).filter(file -> file.endsWith("Test.java"))
                    .collect(Collectors.toCollection(TreeSet::new));
            Due.holds("the tests are " + there + ", not " + told, told.equals(there));
        }
    }
}
