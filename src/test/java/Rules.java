import com.sun.source.tree.*;
import com.sun.source.util.JavacTask;
import com.sun.source.util.TreePath;
import com.sun.source.util.TreePathScanner;
import com.sun.source.util.Trees;
import java.io.IOException;
import java.net.URI;
import java.util.*;
import javax.lang.model.element.Element;
import javax.lang.model.element.ElementKind;
import javax.lang.model.element.ExecutableElement;
import javax.lang.model.element.Modifier;
import javax.lang.model.element.TypeElement;
import javax.lang.model.type.ArrayType;
import javax.lang.model.type.DeclaredType;
import javax.lang.model.type.TypeKind;
import javax.lang.model.type.TypeMirror;
import javax.tools.JavaCompiler;
import javax.tools.JavaFileObject;
import javax.tools.SimpleJavaFileObject;
import javax.tools.ToolProvider;

/**
 * Holds a program against LANGUAGE.md, as far as its rules can be seen in the tree that the compiler makes of it; a
 * breach is told as "rule 6, line 12: ..". It is stricter than the rules in three places, as the class needs no more:
 * no recursion, loops that count alone, and objects made in constructors and first values alone.
 */
final class Rules extends TreePathScanner<Void, Void> {
    private static final int PARAMETERS = 7, LINES = 60, DEPTH = 8, CLASSES = 12, FIELDS = 20;
    private static final Map<String, Set<String>> LIBRARY = Map.of(
        "java.lang.String", Set.of("length", "charAt", "isEmpty", "equals", "indexOf", "substring", "toCharArray"),
        "java.lang.StringBuilder", Set.of("append", "charAt", "setCharAt", "setLength", "deleteCharAt", "reverse", "length", "toString"),
        "java.util.ArrayList", Set.of("add", "get", "set", "remove", "size", "isEmpty", "clear"),
        "java.util.List", Set.of("add", "get", "set", "remove", "size", "isEmpty", "clear", "of"),
        "java.lang.Integer", Set.of("compare", "max", "min", "bitCount", "signum"),
        "java.lang.Long", Set.of("compare", "max", "min", "bitCount", "signum"),
        "java.lang.Math", Set.of("max", "min", "abs", "floorDiv", "floorMod"),
        "java.lang.System", Set.of("arraycopy"),
        "java.util.Arrays", Set.of("copyOf", "copyOfRange", "fill"));
    private static final Set<String> TYPES = Set.of("java.lang.String", "java.lang.StringBuilder", "java.lang.Integer",
        "java.util.ArrayList", "java.util.List");
    private static final Set<Tree.Kind> REFUSED = EnumSet.of(Tree.Kind.THROW, Tree.Kind.TRY, Tree.Kind.CATCH,
        Tree.Kind.SYNCHRONIZED, Tree.Kind.ASSERT);
    private static final Set<Tree.Kind> FORMS = EnumSet.of(Tree.Kind.LAMBDA_EXPRESSION, Tree.Kind.MEMBER_REFERENCE,
        Tree.Kind.ANNOTATION);

    private final Trees trees;
    private final CompilationUnitTree unit;
    private final List<String> breaches = new ArrayList<>();
    private final Set<String> own = new HashSet<>();
    private final Map<Element, Set<Element>> calls = new LinkedHashMap<>();

    private Rules(Trees trees, CompilationUnitTree unit) {
        this.trees = trees;
        this.unit = unit;
    }

    /** The breaches of a program whose public class is OnceLetters. */
    static List<String> breaches(String text) throws IOException {
        JavaCompiler compiler = ToolProvider.getSystemJavaCompiler();
        JavaFileObject file = new SimpleJavaFileObject(URI.create("string:///OnceLetters.java"), JavaFileObject.Kind.SOURCE) {
            @Override
            public CharSequence getCharContent(boolean ignoreEncodingErrors) {
                return text;
            }
        };
        JavacTask task = (JavacTask) compiler.getTask(null, null, d -> { }, List.of("-proc:none"), null, List.of(file));
        CompilationUnitTree unit = task.parse().iterator().next();
        task.analyze();
        Rules rules = new Rules(Trees.instance(task), unit);
        rules.collect();
        rules.scan(unit, null);
        rules.depths();
        return rules.breaches;
    }

    private void breach(int rule, Tree tree, String what) {
        long line = unit.getLineMap().getLineNumber(trees.getSourcePositions().getStartPosition(unit, tree));
        breaches.add("rule " + rule + ", line " + line + ": " + what);
    }

    private void hold(boolean is, int rule, Tree tree, String what) {
        if (!is) {
            breach(rule, tree, what);
        }
    }

    private Element element() {
        return trees.getElement(getCurrentPath());
    }

    private TypeMirror type(Tree tree) {
        return trees.getTypeMirror(new TreePath(getCurrentPath(), tree));
    }

    /** Own classes are known before their first use. */
    private void collect() {
        new TreePathScanner<Void, Void>() {
            @Override
            public Void visitClass(ClassTree tree, Void v) {
                own.add(trees.getElement(getCurrentPath()).toString());
                return super.visitClass(tree, v);
            }
        }.scan(unit, null);
        hold(own.size() <= CLASSES, 11, unit, own.size() + " classes");
        hold(unit.getTypeDecls().size() == 1, 1, unit, "more than one class of the file");
        hold(unit.getPackageName() == null, 1, unit, "a package line");
    }

    @Override
    public Void scan(Tree tree, Void v) {
        if (tree != null) {
            hold(!REFUSED.contains(tree.getKind()), 6, tree, tree.getKind() + "");
            hold(!FORMS.contains(tree.getKind()), 2, tree, tree.getKind() + "");
        }
        return super.scan(tree, v);
    }

    // ---- classes, fields, methods

    @Override
    public Void visitClass(ClassTree tree, Void v) {
        Element element = element();
        boolean inside = getCurrentPath().getParentPath().getLeaf() instanceof ClassTree;
        boolean outermost = getCurrentPath().getParentPath().getLeaf() instanceof CompilationUnitTree;
        hold(inside || outermost, 2, tree, "a local or anonymous class");
        Set<Modifier> modifiers = element.getModifiers();
        hold(outermost || modifiers.contains(Modifier.STATIC), 2, tree, "an inner class that is not static");
        hold(outermost || !modifiers.contains(Modifier.PUBLIC) && !modifiers.contains(Modifier.PROTECTED), 1, tree, "a class inside that is public");
        int fields = 0;
        for (Tree member : tree.getMembers()) {
            hold(!(member instanceof BlockTree b) || !b.isStatic(), 5, member, "a static block");
            fields += member instanceof VariableTree f && !f.getModifiers().getFlags().contains(Modifier.STATIC) ? 1 : 0;
        }
        hold(fields <= FIELDS, 11, tree, fields + " fields");
        return super.visitClass(tree, v);
    }

    @Override
    public Void visitVariable(VariableTree tree, Void v) {
        Element element = element();
        TypeMirror type = element.asType();
        hold(allowed(type), 3, tree, "type " + type);
        if (element.getModifiers().contains(Modifier.STATIC) && element.getKind() == ElementKind.FIELD) {
            hold(element.getModifiers().contains(Modifier.FINAL), 5, tree, "a static field that is not final");
            hold(constant(type, tree.getInitializer()), 5, tree, "a static field of type " + type);
        }
        return super.visitVariable(tree, v);
    }

    private boolean constant(TypeMirror type, Tree first) {
        boolean row = type.getKind() == TypeKind.ARRAY;
        String name = row ? ((ArrayType) type).getComponentType().toString() : type.toString();
        boolean written = !row || first instanceof NewArrayTree a && a.getInitializers() != null;
        return written && (row ? Set.of("int", "long", "char", "byte") : Set.of("int", "long", "boolean", "char", "java.lang.String")).contains(name);
    }

    private boolean allowed(TypeMirror type) {
        if (type instanceof ArrayType row) {
            TypeMirror inner = row.getComponentType();
            return inner instanceof ArrayType second ? second.getComponentType().getKind().isPrimitive()
                : inner.getKind().isPrimitive() || own.contains(inner.toString());
        }
        if (type instanceof DeclaredType declared) {
            String name = declared.asElement().toString();
            return own.contains(name) || TYPES.contains(name) && declared.getTypeArguments().stream().allMatch(this::allowed);
        }
        return type.getKind().isPrimitive() || type.getKind() == TypeKind.VOID;
    }

    @Override
    public Void visitMethod(MethodTree tree, Void v) {
        ExecutableElement method = (ExecutableElement) element();
        calls.computeIfAbsent(method, k -> new LinkedHashSet<>());
        hold(allowed(method.getReturnType()), 3, tree, "type " + method.getReturnType());
        hold(tree.getParameters().size() <= PARAMETERS, 11, tree, "parameters of " + method);
        hold(method.getThrownTypes().isEmpty(), 6, tree, method + " throws");
        hold(!Set.of("equals", "hashCode", "toString").contains(method.getSimpleName() + ""), 6, tree, "a method " + method);
        long start = unit.getLineMap().getLineNumber(trees.getSourcePositions().getStartPosition(unit, tree));
        long end = unit.getLineMap().getLineNumber(Math.max(0, trees.getSourcePositions().getEndPosition(unit, tree)));
        hold(end - start < LINES, 11, tree, method + " has " + (end - start + 1) + " lines");
        if (method.getModifiers().contains(Modifier.PRIVATE)) {
            hold(!sharesPublicName(method), 1, tree, "a private method with a public one's name: " + method);
        }
        return super.visitMethod(tree, v);
    }

    private static boolean sharesPublicName(ExecutableElement method) {
        return method.getKind() == ElementKind.METHOD && method.getEnclosingElement().getEnclosedElements().stream().anyMatch(e ->
            e.getKind() == ElementKind.METHOD && e.getModifiers().contains(Modifier.PUBLIC) && e.getSimpleName().equals(method.getSimpleName()));
    }

    // ---- calls and objects

    private Element caller() {
        for (TreePath path = getCurrentPath(); path != null; path = path.getParentPath()) {
            if (path.getLeaf() instanceof MethodTree) {
                return trees.getElement(path);
            }
        }
        return null;
    }

    @Override
    public Void visitMethodInvocation(MethodInvocationTree tree, Void v) {
        Element called = element();
        String home = called.getEnclosingElement() instanceof TypeElement t ? t.getQualifiedName().toString() : "";
        String name = called.getSimpleName() + "";
        if (own.contains(home)) {
            calls.computeIfAbsent(caller(), k -> new LinkedHashSet<>()).add(called);
        } else {
            boolean hidden = name.equals("<init>");
            boolean copied = name.equals("clone") && tree.getMethodSelect() instanceof MemberSelectTree s
                && trees.getTypeMirror(new TreePath(getCurrentPath(), s.getExpression())) instanceof ArrayType;
            hold(hidden || copied || LIBRARY.getOrDefault(home, Set.of()).contains(name), 4, tree, "a call of " + home + "." + name);
        }
        return super.visitMethodInvocation(tree, v);
    }

    @Override
    public Void visitNewClass(NewClassTree tree, Void v) {
        hold(allowed(type(tree)), 4, tree, "an object of " + type(tree));
        madeEarly(tree);
        return super.visitNewClass(tree, v);
    }

    @Override
    public Void visitNewArray(NewArrayTree tree, Void v) {
        madeEarly(tree);
        return super.visitNewArray(tree, v);
    }

    private void madeEarly(Tree tree) {
        Element maker = caller();
        hold(maker == null || maker.getKind() == ElementKind.CONSTRUCTOR, 12, tree, "an object made by " + maker);
    }

    /** Chains of calls, from each method on; a method that is met again within its chain is recursion. */
    private void depths() {
        for (Element method : calls.keySet()) {
            int depth = depth(method, new ArrayDeque<>());
            hold(depth <= DEPTH, 11, unit, method + " goes " + depth + " deep");
        }
    }

    private int depth(Element method, Deque<Element> chain) {
        if (chain.contains(method)) {
            breaches.add("rule 8: " + method + " calls itself");
            return 0;
        }
        chain.push(method);
        int deepest = 0;
        for (Element next : calls.getOrDefault(method, Set.of())) {
            deepest = Math.max(deepest, depth(next, chain));
        }
        chain.pop();
        return deepest + 1;
    }

    // ---- loops

    @Override
    public Void visitForLoop(ForLoopTree tree, Void v) {
        hold(counts(tree), 9, tree, "a loop that does not count");
        return super.visitForLoop(tree, v);
    }

    /** One variable that goes up below a bound, or down to one, and that the loop's body does not set. */
    private static boolean counts(ForLoopTree tree) {
        if (tree.getInitializer().size() != 1 || !(tree.getInitializer().get(0) instanceof VariableTree start)
                || !(tree.getCondition() instanceof BinaryTree condition) || tree.getUpdate().size() != 1
                || !(tree.getUpdate().get(0).getExpression() instanceof UnaryTree step)) {
            return false;
        }
        String name = start.getName().toString();
        boolean up = step.getKind() == Tree.Kind.POSTFIX_INCREMENT
            && (condition.getKind() == Tree.Kind.LESS_THAN || condition.getKind() == Tree.Kind.LESS_THAN_EQUAL);
        boolean down = step.getKind() == Tree.Kind.POSTFIX_DECREMENT
            && (condition.getKind() == Tree.Kind.GREATER_THAN || condition.getKind() == Tree.Kind.GREATER_THAN_EQUAL);
        return (up || down) && condition.getLeftOperand().toString().equals(name)
            && step.getExpression().toString().equals(name) && !sets(tree.getStatement(), name);
    }

    private static boolean sets(Tree body, String name) {
        boolean[] found = {false};
        new com.sun.source.util.TreeScanner<Void, Void>() {
            @Override
            public Void visitAssignment(AssignmentTree tree, Void v) {
                found[0] |= tree.getVariable().toString().equals(name);
                return super.visitAssignment(tree, v);
            }

            @Override
            public Void visitCompoundAssignment(CompoundAssignmentTree tree, Void v) {
                found[0] |= tree.getVariable().toString().equals(name);
                return super.visitCompoundAssignment(tree, v);
            }

            @Override
            public Void visitUnary(UnaryTree tree, Void v) {
                boolean changes = tree.getKind() != Tree.Kind.UNARY_MINUS && tree.getKind() != Tree.Kind.LOGICAL_COMPLEMENT;
                found[0] |= changes && tree.getExpression().toString().equals(name);
                return super.visitUnary(tree, v);
            }
        }.scan(body, null);
        return found[0];
    }

    @Override
    public Void visitWhileLoop(WhileLoopTree tree, Void v) {
        breach(9, tree, "a loop that does not count");
        return super.visitWhileLoop(tree, v);
    }

    @Override
    public Void visitDoWhileLoop(DoWhileLoopTree tree, Void v) {
        breach(9, tree, "a loop that does not count");
        return super.visitDoWhileLoop(tree, v);
    }

    // ---- expressions

    @Override
    public Void visitBinary(BinaryTree tree, Void v) {
        String left = type(tree.getLeftOperand()) + "";
        String right = type(tree.getRightOperand()) + "";
        boolean texts = left.equals("java.lang.String") || right.equals("java.lang.String");
        hold(tree.getKind() != Tree.Kind.PLUS || !texts, 10, tree, "texts joined by +");
        boolean compares = tree.getKind() == Tree.Kind.EQUAL_TO || tree.getKind() == Tree.Kind.NOT_EQUAL_TO;
        boolean boxes = Set.of("java.lang.String", "java.lang.Integer").contains(left) && left.equals(right);
        hold(!compares || !boxes, 6, tree, "== between two of " + left);
        if (tree.getKind() == Tree.Kind.DIVIDE || tree.getKind() == Tree.Kind.REMAINDER) {
            divisor(tree, tree.getRightOperand());
        }
        return super.visitBinary(tree, v);
    }

    @Override
    public Void visitCompoundAssignment(CompoundAssignmentTree tree, Void v) {
        hold(!"java.lang.String".equals(type(tree.getVariable()) + ""), 10, tree, "texts joined by +=");
        if (tree.getKind() == Tree.Kind.DIVIDE_ASSIGNMENT || tree.getKind() == Tree.Kind.REMAINDER_ASSIGNMENT) {
            divisor(tree, tree.getExpression());
        }
        return super.visitCompoundAssignment(tree, v);
    }

    private void divisor(Tree tree, Tree by) {
        Element named = trees.getElement(new TreePath(getCurrentPath(), by));
        Object value = by instanceof LiteralTree l ? l.getValue()
            : named instanceof javax.lang.model.element.VariableElement e ? e.getConstantValue() : null;
        hold(value instanceof Number n && n.longValue() != 0, 7, tree, "a divisor that is no constant");
    }

    @Override
    public Void visitTypeCast(TypeCastTree tree, Void v) {
        hold(type(tree).getKind().isPrimitive() && type(tree.getExpression()).getKind().isPrimitive(), 6, tree, "a cast of an object");
        return super.visitTypeCast(tree, v);
    }
}
