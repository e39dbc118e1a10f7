import com.sun.source.tree.ArrayAccessTree;
import com.sun.source.tree.AssignmentTree;
import com.sun.source.tree.BinaryTree;
import com.sun.source.tree.ClassTree;
import com.sun.source.tree.CompilationUnitTree;
import com.sun.source.tree.ExpressionTree;
import com.sun.source.tree.ForLoopTree;
import com.sun.source.tree.IdentifierTree;
import com.sun.source.tree.LineMap;
import com.sun.source.tree.MethodInvocationTree;
import com.sun.source.tree.MethodTree;
import com.sun.source.tree.ModifiersTree;
import com.sun.source.tree.NewArrayTree;
import com.sun.source.tree.PrimitiveTypeTree;
import com.sun.source.tree.Tree;
import com.sun.source.tree.Tree.Kind;
import com.sun.source.tree.VariableTree;
import com.sun.source.util.JavacTask;
import com.sun.source.util.TreePathScanner;
import com.sun.source.util.Trees;
import java.io.IOException;
import java.nio.file.Path;
import java.util.EnumSet;
import java.util.List;
import java.util.Map;
import java.util.Set;
import java.util.TreeMap;
import java.util.TreeSet;
import javax.lang.model.element.ElementKind;
import javax.lang.model.element.ExecutableElement;
import javax.lang.model.element.Modifier;
import javax.lang.model.element.VariableElement;
import javax.lang.model.type.ArrayType;
import javax.lang.model.type.TypeKind;
import javax.lang.model.type.TypeMirror;
import javax.tools.JavaCompiler;
import javax.tools.StandardJavaFileManager;
import javax.tools.ToolProvider;

/**
 * The rules of LANGUAGE.md that can be told from the source, looked at in the compiler's own tree. Here and
 * there this is stricter than the rules, where the program needs no more. Of rule 7 (no index or divisor out
 * of range) and of a loop's end in rule 8 a tree tells too little: they are left to the other tests and to
 * reading.
 */
public final class LanguageTest extends TreePathScanner<Void, Void> {
    private static final Path SOURCE = Path.of("src/main/java/CosetTables.java");

    /** Whatever the rules forbid by its form is missing here: throw, lambda, string, member of another class. */
    private static final Set<Kind> FORMS = EnumSet.of(
            Kind.COMPILATION_UNIT, Kind.CLASS, Kind.METHOD, Kind.VARIABLE, Kind.MODIFIERS, Kind.BLOCK,
            Kind.PRIMITIVE_TYPE, Kind.ARRAY_TYPE, Kind.NEW_ARRAY, Kind.ARRAY_ACCESS, Kind.IDENTIFIER,
            Kind.INT_LITERAL, Kind.LONG_LITERAL, Kind.CHAR_LITERAL, Kind.BOOLEAN_LITERAL,
            Kind.IF, Kind.FOR_LOOP, Kind.WHILE_LOOP, Kind.DO_WHILE_LOOP, Kind.SWITCH, Kind.CASE, Kind.BREAK,
            Kind.CONTINUE, Kind.LABELED_STATEMENT, Kind.RETURN, Kind.EXPRESSION_STATEMENT, Kind.EMPTY_STATEMENT,
            Kind.METHOD_INVOCATION, Kind.PARENTHESIZED, Kind.TYPE_CAST, Kind.CONDITIONAL_EXPRESSION,
            Kind.ASSIGNMENT, Kind.PREFIX_INCREMENT, Kind.PREFIX_DECREMENT, Kind.POSTFIX_INCREMENT,
            Kind.POSTFIX_DECREMENT, Kind.UNARY_PLUS, Kind.UNARY_MINUS, Kind.BITWISE_COMPLEMENT,
            Kind.LOGICAL_COMPLEMENT, Kind.MULTIPLY, Kind.DIVIDE, Kind.REMAINDER, Kind.PLUS, Kind.MINUS,
            Kind.LEFT_SHIFT, Kind.RIGHT_SHIFT, Kind.UNSIGNED_RIGHT_SHIFT, Kind.LESS_THAN, Kind.GREATER_THAN,
            Kind.LESS_THAN_EQUAL, Kind.GREATER_THAN_EQUAL, Kind.EQUAL_TO, Kind.NOT_EQUAL_TO, Kind.AND, Kind.XOR,
            Kind.OR, Kind.CONDITIONAL_AND, Kind.CONDITIONAL_OR, Kind.MULTIPLY_ASSIGNMENT,
            Kind.DIVIDE_ASSIGNMENT, Kind.REMAINDER_ASSIGNMENT, Kind.PLUS_ASSIGNMENT, Kind.MINUS_ASSIGNMENT,
            Kind.LEFT_SHIFT_ASSIGNMENT, Kind.RIGHT_SHIFT_ASSIGNMENT, Kind.UNSIGNED_RIGHT_SHIFT_ASSIGNMENT,
            Kind.AND_ASSIGNMENT, Kind.XOR_ASSIGNMENT, Kind.OR_ASSIGNMENT);

    /** No synchronized, native or volatile, and nothing visible to the package or to a subclass. */
    private static final Set<Modifier> MODIFIERS =
            EnumSet.of(Modifier.PUBLIC, Modifier.PRIVATE, Modifier.STATIC, Modifier.FINAL);

    private static final Set<TypeKind> NUMBERS = EnumSet.of(
            TypeKind.INT, TypeKind.LONG, TypeKind.SHORT, TypeKind.BYTE, TypeKind.CHAR, TypeKind.BOOLEAN);

    private static final Set<ElementKind> NAMED = EnumSet.of(
            ElementKind.FIELD, ElementKind.PARAMETER, ElementKind.LOCAL_VARIABLE, ElementKind.METHOD);

    private final Trees trees;
    private final CompilationUnitTree unit;

    /** For each method the names of those that it calls. */
    private final Map<String, Set<String>> calls = new TreeMap<>();
    private String method = "";
    private int callsAround = 0;

    private LanguageTest(Trees trees, CompilationUnitTree unit) {
        this.trees = trees;
        this.unit = unit;
    }

    public static void main(String[] args) throws IOException {
        JavaCompiler compiler = ToolProvider.getSystemJavaCompiler();
        try (StandardJavaFileManager files = compiler.getStandardFileManager(null, null, null)) {
            JavacTask task = (JavacTask) compiler.getTask(null, files, null, List.of("--release", "17"), null,
                    files.getJavaFileObjects(SOURCE));
            CompilationUnitTree unit = task.parse().iterator().next();
            task.analyze();
            new LanguageTest(Trees.instance(task), unit).look();
        }
        Due.end();
    }

    private void look() {
        Due.holds("rule 1: no package line", unit.getPackage() == null);
        Due.same("rule 3: imports", unit.getImports().size(), 0);
        Due.same("rule 1: classes in the file", unit.getTypeDecls().size(), 1);
        scan(unit, null);
        for (String name : calls.keySet()) {
            Due.holds("rules 8 and 10: no recursion, and calls at most six deep from " + name, depth(name, 7) <= 6);
        }
    }

    /** How deep the calls go, itself counted; a recursion is cut off at the limit. */
    private int depth(String name, int limit) {
        int deepest = 0;
        if (limit > 1) {
            for (String next : calls.get(name)) {
                deepest = Math.max(deepest, depth(next, limit - 1));
            }
        }
        return 1 + deepest;
    }

    private String at(Tree tree) {
        long start = trees.getSourcePositions().getStartPosition(unit, tree);
        return "line " + unit.getLineMap().getLineNumber(start) + ": " + tree;
    }

    private TypeMirror typeOf(Tree tree) {
        return trees.getTypeMirror(trees.getPath(unit, tree));
    }

    private boolean isArray(Tree tree) {
        return typeOf(tree).getKind() == TypeKind.ARRAY;
    }

    private static boolean isAllowed(TypeMirror type) {
        TypeMirror one = type.getKind() == TypeKind.ARRAY ? ((ArrayType) type).getComponentType() : type;
        return NUMBERS.contains(one.getKind());
    }

    /** The nodes that the compiler puts in itself, such as the call of super(), stand nowhere in the source. */
    private boolean isWritten(Tree tree) {
        return trees.getSourcePositions().getEndPosition(unit, tree) > 0;
    }

    @Override
    public Void scan(Tree tree, Void nothing) {
        if (tree == null || !isWritten(tree)) {
            return null;
        }
        Due.holds("rules 2, 3, 6 and 9: " + tree.getKind() + " at " + at(tree), FORMS.contains(tree.getKind()));
        return super.scan(tree, nothing);
    }

    @Override
    public Void visitClass(ClassTree tree, Void nothing) {
        Due.holds("rule 1: no nested class", getCurrentPath().getParentPath().getLeaf() == unit);
        long held = tree.getMembers().stream().filter(member -> member instanceof VariableTree field
                && !field.getModifiers().getFlags().contains(Modifier.STATIC)).count();
        Due.holds("rule 10: at most forty fields, not " + held, held <= 40);
        Due.holds("rule 5: no initialiser by itself",
                tree.getMembers().stream().noneMatch(member -> member.getKind() == Kind.BLOCK));
        for (Tree member : tree.getMembers()) {
            if (member instanceof MethodTree one) {
                Due.holds("one method of this name: " + one.getName(),
                        calls.put(one.getName().toString(), new TreeSet<>()) == null);
            }
        }
        return super.visitClass(tree, nothing);
    }

    @Override
    public Void visitMethod(MethodTree tree, Void nothing) {
        method = tree.getName().toString();
        Due.holds("rule 10: at most seven parameters: " + method, tree.getParameters().size() <= 7);
        LineMap lines = unit.getLineMap();
        long first = lines.getLineNumber(trees.getSourcePositions().getStartPosition(unit, tree));
        long last = lines.getLineNumber(trees.getSourcePositions().getEndPosition(unit, tree));
        Due.holds("rule 10: at most sixty lines: " + method, last - first < 60);
        Tree answer = tree.getReturnType();
        if (answer != null && typeOf(answer).getKind() != TypeKind.VOID) {
            Due.holds("rules 2 and 4: answers a number: " + method, NUMBERS.contains(typeOf(answer).getKind()));
        }
        Due.holds("rule 4: no array made by a call: " + method,
                !((ExecutableElement) trees.getElement(getCurrentPath())).isVarArgs());
        super.visitMethod(tree, nothing);
        method = "";
        return null;
    }

    @Override
    public Void visitIdentifier(IdentifierTree tree, Void nothing) {
        Due.holds("rule 3: the name of a number, an array or a method: " + at(tree),
                NAMED.contains(trees.getElement(getCurrentPath()).getKind()));
        return super.visitIdentifier(tree, nothing);
    }

    @Override
    public Void visitModifiers(ModifiersTree tree, Void nothing) {
        Due.holds("rules 1 and 6: modifiers " + at(tree), MODIFIERS.containsAll(tree.getFlags()));
        return super.visitModifiers(tree, nothing);
    }

    @Override
    public Void visitPrimitiveType(PrimitiveTypeTree tree, Void nothing) {
        TypeKind kind = tree.getPrimitiveTypeKind();
        Due.holds("rule 2: an allowed type: " + at(tree), NUMBERS.contains(kind) || kind == TypeKind.VOID);
        return super.visitPrimitiveType(tree, nothing);
    }

    @Override
    public Void visitVariable(VariableTree tree, Void nothing) {
        Due.holds("rule 2: an allowed type: " + at(tree), isAllowed(typeOf(tree)));
        Set<Modifier> flags = tree.getModifiers().getFlags();
        boolean isField = getCurrentPath().getParentPath().getLeaf().getKind() == Kind.CLASS;
        if (isField && flags.contains(Modifier.STATIC)) {
            VariableElement field = (VariableElement) trees.getElement(getCurrentPath());
            TypeKind kind = field.asType().getKind();
            Due.holds("rule 5: a constant: " + at(tree),
                    field.getConstantValue() != null && (kind == TypeKind.INT || kind == TypeKind.LONG));
        } else if (isField && isArray(tree)) {
            Due.holds("rule 4: a field made with its array: " + at(tree),
                    flags.contains(Modifier.FINAL) && tree.getInitializer() instanceof NewArrayTree);
        }
        return super.visitVariable(tree, nothing);
    }

    @Override
    public Void visitNewArray(NewArrayTree tree, Void nothing) {
        Tree parent = getCurrentPath().getParentPath().getLeaf();
        Tree above = getCurrentPath().getParentPath().getParentPath().getLeaf();
        Due.holds("rule 4: made in a field's initialiser: " + at(tree),
                parent.getKind() == Kind.VARIABLE && above.getKind() == Kind.CLASS);
        Due.same("rule 4: lengths of " + at(tree), tree.getDimensions().size(), 1);
        Due.holds("rule 4: no list of what is in it: " + at(tree), tree.getInitializers() == null);
        for (ExpressionTree length : tree.getDimensions()) {
            Due.holds("rule 4: a constant length, 1 or more: " + at(tree), constant(length) >= 1);
        }
        return super.visitNewArray(tree, nothing);
    }

    /** The number that a literal or a constant of the class stands for, 0 for anything else. */
    private int constant(ExpressionTree tree) {
        if (tree.getKind() == Kind.INT_LITERAL) {
            return Integer.parseInt(tree.toString());
        }
        return trees.getElement(trees.getPath(unit, tree)) instanceof VariableElement named
                && named.getConstantValue() instanceof Integer number ? number : 0;
    }

    @Override
    public Void visitAssignment(AssignmentTree tree, Void nothing) {
        Due.holds("rule 4: no array is assigned: " + at(tree), !isArray(tree.getVariable()));
        return super.visitAssignment(tree, nothing);
    }

    @Override
    public Void visitBinary(BinaryTree tree, Void nothing) {
        Due.holds("rule 4: no array is compared: " + at(tree),
                !isArray(tree.getLeftOperand()) && !isArray(tree.getRightOperand()));
        return super.visitBinary(tree, nothing);
    }

    @Override
    public Void visitArrayAccess(ArrayAccessTree tree, Void nothing) {
        Due.holds("rule 4: an array is used by its name: " + at(tree), tree.getExpression() instanceof IdentifierTree);
        return super.visitArrayAccess(tree, nothing);
    }

    @Override
    public Void visitForLoop(ForLoopTree tree, Void nothing) {
        Due.holds("rule 8: a loop with a bound and a step: " + at(tree),
                tree.getCondition() != null && tree.getUpdate().size() == 1);
        return super.visitForLoop(tree, nothing);
    }

    @Override
    public Void visitMethodInvocation(MethodInvocationTree tree, Void nothing) {
        String name = tree.getMethodSelect().toString();
        Due.holds("rule 3: a method of the class: " + at(tree), calls.containsKey(name));
        Due.same("rule 10: calls with " + at(tree) + " among their arguments", callsAround, 0);
        Due.holds("a call stands in a method: " + at(tree), calls.containsKey(method));
        if (calls.containsKey(name) && calls.containsKey(method)) {
            calls.get(method).add(name);
        }
        callsAround++;
        scan(tree.getArguments(), nothing);
        callsAround--;
        return null;
    }
}
