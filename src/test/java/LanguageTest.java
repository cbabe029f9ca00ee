import com.sun.source.tree.*;
import com.sun.source.util.JavacTask;
import com.sun.source.util.SourcePositions;
import com.sun.source.util.TreePathScanner;
import com.sun.source.util.TreeScanner;
import com.sun.source.util.Trees;
import java.io.IOException;
import java.nio.file.Path;
import java.util.HashMap;
import java.util.HashSet;
import java.util.List;
import java.util.Map;
import java.util.Set;
import java.util.TreeSet;
import javax.lang.model.element.Modifier;
import javax.lang.model.type.TypeKind;
import javax.tools.JavaCompiler;
import javax.tools.StandardJavaFileManager;
import javax.tools.ToolProvider;

/**
 * The rules of LANGUAGE.md that the parsed class can show, each told by its number. Rules 7 and 11 need no check of
 * their own beyond this: the other tests give every call its wild arguments, and rule 3 leaves no clock to read.
 * It is run from the project's folder.
 */
public final class LanguageTest extends TreePathScanner<Void, Void> {
    private static final Path SOURCE = Path.of("src/main/java/WovenDebugger.java");
    private static final int MOST_LINES = 60;
    private static final int MOST_PARAMETERS = 7;
    private static final int MOST_FIELDS = 40;
    private static final int DEEPEST = 6;
    private static final String CONSTRUCTOR = "<init>";

    private final CompilationUnitTree unit;
    private final SourcePositions positions;
    private final Map<String, Set<String>> calls = new HashMap<>();
    private final Set<String> publicMethods = new HashSet<>();
    private final Set<String> privateMethods = new HashSet<>();
    private final Set<String> constants = new HashSet<>();
    private String method = null;
    private int fields = 0;
    private int classes = 0;
    private int wrong = 0;

    private LanguageTest(CompilationUnitTree unit, SourcePositions positions) {
        this.unit = unit;
        this.positions = positions;
    }

    public static void main(String[] args) throws IOException {
        JavaCompiler compiler = ToolProvider.getSystemJavaCompiler();
        try (StandardJavaFileManager files = compiler.getStandardFileManager(null, null, null)) {
            JavacTask task = (JavacTask) compiler.getTask(null, files, null, List.of("--release", "17"), null,
                files.getJavaFileObjects(SOURCE));
            CompilationUnitTree unit = task.parse().iterator().next();
            LanguageTest test = new LanguageTest(unit, Trees.instance(task).getSourcePositions());
            test.scan(unit, null);
            test.names();
            test.depths();
            System.out.println(test.wrong == 0 ? "the language is kept to" : test.wrong + " rules are broken");
            if (test.wrong != 0) {
                System.exit(1);
            }
        }
    }

    private void broken(int rule, Object what) {
        wrong++;
        System.out.println("rule " + rule + ": " + what);
    }

    private void unless(boolean kept, int rule, Object what) {
        if (!kept) {
            broken(rule, what);
        }
    }

    @Override
    public Void visitPackage(PackageTree node, Void v) {
        broken(1, "a package line");
        return null;
    }

    @Override
    public Void visitImport(ImportTree node, Void v) {
        broken(3, node);
        return null;
    }

    @Override
    public Void visitClass(ClassTree node, Void v) {
        classes++;
        Set<Modifier> flags = node.getModifiers().getFlags();
        unless(classes == 1 && node.getKind() == Tree.Kind.CLASS, 1, "more than one class: " + node.getSimpleName());
        unless(flags.equals(Set.of(Modifier.PUBLIC, Modifier.FINAL)), 1, "the class is " + flags);
        unless(node.getExtendsClause() == null && node.getImplementsClause().isEmpty(), 1, "it extends another");
        for (Tree member : node.getMembers()) {
            if (member instanceof VariableTree field) {
                field(field);
            }
            unless(!(member instanceof BlockTree), 5, "an initialiser block");
        }
        return super.visitClass(node, v);
    }

    private void field(VariableTree field) {
        Set<Modifier> flags = field.getModifiers().getFlags();
        boolean constant = flags.contains(Modifier.STATIC);
        unless(flags.contains(Modifier.PRIVATE) || constant && flags.contains(Modifier.PUBLIC), 1, field);
        unless(flags.contains(Modifier.FINAL) || !(field.getType() instanceof ArrayTypeTree), 4,
            "an array field that could be assigned to: " + field);
        if (!constant) {
            fields++;
            return;
        }
        String type = field.getType().toString();
        unless(flags.contains(Modifier.FINAL) && (type.equals("int") || type.equals("long")), 5, field);
        unless(field.getInitializer() != null && isConstant(field.getInitializer()), 5, field);
        constants.add(field.getName().toString());
    }

    private boolean isConstant(ExpressionTree e) {
        if (e instanceof ParenthesizedTree inner) {
            return isConstant(inner.getExpression());
        }
        if (e instanceof UnaryTree unary) {
            return isConstant(unary.getExpression());
        }
        if (e instanceof BinaryTree binary) {
            return isConstant(binary.getLeftOperand()) && isConstant(binary.getRightOperand());
        }
        return e instanceof LiteralTree || e instanceof IdentifierTree name && constants.contains(name.toString());
    }

    @Override
    public Void visitMethod(MethodTree node, Void v) {
        method = node.getName().toString();
        Set<Modifier> flags = node.getModifiers().getFlags();
        boolean isPublic = flags.contains(Modifier.PUBLIC);
        unless(isPublic || flags.contains(Modifier.PRIVATE), 1, method + " is neither public nor private");
        (isPublic ? publicMethods : privateMethods).add(method);
        calls.computeIfAbsent(method, name -> new TreeSet<>());
        unless(node.getParameters().size() <= MOST_PARAMETERS, 10, method + " has too many parameters");
        Tree answer = node.getReturnType();
        unless(!(answer instanceof ArrayTypeTree), 4, method + " answers an array");
        unless(answer instanceof ArrayTypeTree || isNumberOrNothing(answer), 2, method + " answers a " + answer);
        unless(node.getThrows().isEmpty(), 6, method + " throws");
        unless(linesOf(node) <= MOST_LINES, 10, method + " is too long");
        super.visitMethod(node, v);
        method = null;
        return null;
    }

    private boolean isNumberOrNothing(Tree type) {
        return type == null || type.toString().equals("void") || isNumber(type);
    }

    private long linesOf(Tree node) {
        LineMap map = unit.getLineMap();
        long first = positions.getStartPosition(unit, node);
        long last = positions.getEndPosition(unit, node);
        return map.getLineNumber(last) - map.getLineNumber(first) + 1;
    }

    @Override
    public Void visitVariable(VariableTree node, Void v) {
        Tree type = node.getType();
        boolean array = type instanceof ArrayTypeTree;
        Tree element = array ? ((ArrayTypeTree) type).getType() : type;
        unless(element != null && isNumber(element), 2, node);
        return super.visitVariable(node, v);
    }

    private boolean isNumber(Tree type) {
        if (!(type instanceof PrimitiveTypeTree primitive)) {
            return false;
        }
        TypeKind kind = primitive.getPrimitiveTypeKind();
        return kind != TypeKind.FLOAT && kind != TypeKind.DOUBLE && kind != TypeKind.VOID;
    }

    @Override
    public Void visitNewArray(NewArrayTree node, Void v) {
        unless(method == null || method.equals(CONSTRUCTOR), 4, "an array made in " + method);
        unless(node.getType() != null && isNumber(node.getType()), 2, node);
        unless(node.getInitializers() == null && node.getDimensions().size() == 1, 4, node);
        for (ExpressionTree length : node.getDimensions()) {
            unless(isConstant(length), 4, node);
        }
        for (Tree above : getCurrentPath()) {
            unless(!isLoopOrCondition(above), 4, "an array made in a loop or behind a condition");
        }
        return super.visitNewArray(node, v);
    }

    private boolean isLoopOrCondition(Tree tree) {
        return tree instanceof ForLoopTree || tree instanceof EnhancedForLoopTree || tree instanceof WhileLoopTree
            || tree instanceof DoWhileLoopTree || tree instanceof IfTree || tree instanceof SwitchTree
            || tree instanceof ConditionalExpressionTree;
    }

    @Override
    public Void visitNewClass(NewClassTree node, Void v) {
        broken(4, node);
        return super.visitNewClass(node, v);
    }

    @Override
    public Void visitLiteral(LiteralTree node, Void v) {
        Object value = node.getValue();
        unless(value != null, 4, "null is used");
        unless(!(value instanceof String || value instanceof Float || value instanceof Double), 2, node);
        return null;
    }

    @Override
    public Void visitMemberSelect(MemberSelectTree node, Void v) {
        String whole = node.toString();
        boolean own = whole.startsWith("this.") || whole.startsWith("WovenDebugger.");
        unless(own || node.getIdentifier().contentEquals("length"), 3, node);
        return super.visitMemberSelect(node, v);
    }

    @Override
    public Void visitMethodInvocation(MethodInvocationTree node, Void v) {
        String called = node.getMethodSelect().toString().replaceFirst("^(this|WovenDebugger)\\.", "");
        if (!called.equals("super")) {
            calls.computeIfAbsent(String.valueOf(method), name -> new TreeSet<>()).add(called);
        }
        for (ExpressionTree argument : node.getArguments()) {
            unless(!holdsACall(argument), 10, "a call inside the arguments of another: " + node);
        }
        return super.visitMethodInvocation(node, v);
    }

    private boolean holdsACall(Tree tree) {
        boolean[] found = {false};
        new TreeScanner<Void, Void>() {
            @Override
            public Void visitMethodInvocation(MethodInvocationTree node, Void v) {
                found[0] = true;
                return null;
            }
        }.scan(tree, null);
        return found[0];
    }

    @Override
    public Void visitTypeCast(TypeCastTree node, Void v) {
        unless(isNumber(node.getType()), 6, node);
        return super.visitTypeCast(node, v);
    }

    @Override
    public Void visitThrow(ThrowTree node, Void v) {
        broken(6, node);
        return super.visitThrow(node, v);
    }

    @Override
    public Void visitTry(TryTree node, Void v) {
        broken(6, node);
        return super.visitTry(node, v);
    }

    @Override
    public Void visitSynchronized(SynchronizedTree node, Void v) {
        broken(6, node);
        return super.visitSynchronized(node, v);
    }

    @Override
    public Void visitAssert(AssertTree node, Void v) {
        broken(6, node);
        return super.visitAssert(node, v);
    }

    @Override
    public Void visitInstanceOf(InstanceOfTree node, Void v) {
        broken(6, node);
        return super.visitInstanceOf(node, v);
    }

    @Override
    public Void visitLambdaExpression(LambdaExpressionTree node, Void v) {
        broken(6, node);
        return super.visitLambdaExpression(node, v);
    }

    @Override
    public Void visitMemberReference(MemberReferenceTree node, Void v) {
        broken(6, node);
        return super.visitMemberReference(node, v);
    }

    @Override
    public Void visitForLoop(ForLoopTree node, Void v) {
        unless(node.getCondition() != null && !isTrue(node.getCondition()), 8, "a loop without a bound: " + node);
        return super.visitForLoop(node, v);
    }

    @Override
    public Void visitWhileLoop(WhileLoopTree node, Void v) {
        unless(!isTrue(node.getCondition()), 8, "a loop without a bound: " + node);
        return super.visitWhileLoop(node, v);
    }

    @Override
    public Void visitDoWhileLoop(DoWhileLoopTree node, Void v) {
        unless(!isTrue(node.getCondition()), 8, "a loop without a bound: " + node);
        return super.visitDoWhileLoop(node, v);
    }

    private boolean isTrue(ExpressionTree condition) {
        return condition.toString().replaceAll("[()]", "").equals("true");
    }

    private void names() {
        for (String name : privateMethods) {
            unless(!publicMethods.contains(name), 1, "a private method is named as a public one: " + name);
        }
        unless(publicMethods.size() == 17, 1, "public methods and constructor: " + publicMethods);
        unless(fields <= MOST_FIELDS, 10, fields + " fields");
    }

    // The depths are settled after as many rounds as there are methods, or calls go in a circle.
    private void depths() {
        Map<String, Integer> depth = new HashMap<>();
        for (int round = 0; round <= calls.size(); round++) {
            for (String name : calls.keySet()) {
                depth.put(name, 1 + deepestOf(calls.get(name), depth));
            }
        }
        for (String name : calls.keySet()) {
            unless(depth.get(name) == 1 + deepestOf(calls.get(name), depth), 8, name + " leads back to itself");
            unless(depth.get(name) <= DEEPEST, 10, "calls go " + depth.get(name) + " deep from " + name);
            for (String called : calls.get(name)) {
                unless(calls.containsKey(called), 3, "a method of another class: " + called);
            }
        }
    }

    private int deepestOf(Set<String> names, Map<String, Integer> depth) {
        int deepest = 0;
        for (String name : names) {
            deepest = Math.max(deepest, depth.getOrDefault(name, 1));
        }
        return deepest;
    }
}
