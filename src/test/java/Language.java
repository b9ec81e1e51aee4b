import com.sun.source.tree.ArrayAccessTree;
import com.sun.source.tree.BinaryTree;
import com.sun.source.tree.ClassTree;
import com.sun.source.tree.CompilationUnitTree;
import com.sun.source.tree.CompoundAssignmentTree;
import com.sun.source.tree.ForLoopTree;
import com.sun.source.tree.ImportTree;
import com.sun.source.tree.LiteralTree;
import com.sun.source.tree.MethodInvocationTree;
import com.sun.source.tree.MethodTree;
import com.sun.source.tree.NewArrayTree;
import com.sun.source.tree.NewClassTree;
import com.sun.source.tree.ThrowTree;
import com.sun.source.tree.Tree;
import com.sun.source.tree.VariableTree;
import com.sun.source.util.JavacTask;
import com.sun.source.util.TreePathScanner;
import com.sun.source.util.TreeScanner;
import com.sun.source.util.Trees;
import java.io.IOException;
import java.nio.file.Path;
import java.util.ArrayList;
import java.util.HashMap;
import java.util.HashSet;
import java.util.List;
import java.util.Map;
import java.util.Set;
import java.util.TreeSet;
import javax.lang.model.element.Element;
import javax.lang.model.element.ElementKind;
import javax.lang.model.element.ExecutableElement;
import javax.lang.model.element.Modifier;
import javax.lang.model.element.TypeElement;
import javax.lang.model.element.VariableElement;
import javax.tools.JavaCompiler;
import javax.tools.StandardJavaFileManager;
import javax.tools.ToolProvider;

/** The rules of ../shared/LANGUAGE.md, as far as the syntax tree of a file shows whether it keeps to them. */
final class Language extends TreePathScanner<Void, Void> {
    private static final int MOST_LINES = 60;
    private static final int MOST_CLASSES = 12;
    private static final int MOST_DEEP = 8;
    private static final Set<String> IMPORTS = Set.of("java.util.Arrays");
    private static final Set<String> LIBRARY = Set.of("java.util.Arrays.fill", "java.lang.Math.min",
            "java.lang.Math.max", "java.lang.Integer.bitCount", "java.lang.Long.bitCount");
    private static final Set<String> TYPES = Set.of("int", "long", "char", "boolean", "int[]", "long[]");
    private static final Set<String> EXCEPTIONS = Set.of("IllegalArgumentException", "IllegalStateException",
            "IndexOutOfBoundsException");
    /** What the language has rules for and the class does without. */
    private static final Set<Tree.Kind> UNUSED = Set.of(Tree.Kind.LAMBDA_EXPRESSION, Tree.Kind.MEMBER_REFERENCE,
            Tree.Kind.TRY, Tree.Kind.SYNCHRONIZED, Tree.Kind.ASSERT, Tree.Kind.INSTANCE_OF, Tree.Kind.TYPE_CAST,
            Tree.Kind.SWITCH_EXPRESSION, Tree.Kind.WHILE_LOOP, Tree.Kind.DO_WHILE_LOOP,
            Tree.Kind.ENHANCED_FOR_LOOP, Tree.Kind.LABELED_STATEMENT, Tree.Kind.INTERFACE, Tree.Kind.ENUM,
            Tree.Kind.RECORD, Tree.Kind.PACKAGE);

    private final CompilationUnitTree unit;
    private final Trees trees;
    private final Map<String, Long> constants = new HashMap<>();
    private final Map<Element, Set<Element>> calls = new HashMap<>();
    private final Map<Element, Integer> depths = new HashMap<>();
    private final List<String> classes = new ArrayList<>();
    private MethodTree method;

    private Language(CompilationUnitTree unit, Trees trees) {
        this.unit = unit;
        this.trees = trees;
    }

    static void compare(Path source) throws IOException {
        JavaCompiler compiler = ToolProvider.getSystemJavaCompiler();
        try (StandardJavaFileManager files = compiler.getStandardFileManager(null, null, null)) {
            JavacTask task = (JavacTask) compiler.getTask(null, files, null, List.of("-proc:none"), null,
                    files.getJavaFileObjects(source));
            CompilationUnitTree unit = task.parse().iterator().next();
            task.analyze();
            Language language = new Language(unit, Trees.instance(task));
            language.scan(unit, null);
            language.compareCalls();
        }
    }

    private void must(String rule, Tree tree, boolean holds) {
        long line = unit.getLineMap().getLineNumber(trees.getSourcePositions().getStartPosition(unit, tree));
        Check.same("rule " + rule + ", line " + line, holds ? 1 : 0, 1);
    }

    /** Calls make no ring, are at most eight deep, and every method is called or public. */
    private void compareCalls() {
        Check.same("rule 11, at most twelve classes", classes.size() <= MOST_CLASSES ? 1 : 0, 1);
        Set<Element> called = new HashSet<>();
        calls.values().forEach(called::addAll);
        for (Element caller : calls.keySet()) {
            int depth = depthOf(caller, 0);
            Check.same("rule 11, at most eight deep: " + caller, depth <= MOST_DEEP ? 1 : 0, 1);
            boolean isUsed = called.contains(caller) || caller.getModifiers().contains(Modifier.PUBLIC)
                    || caller.getKind() == ElementKind.CONSTRUCTOR;
            Check.same("called: " + caller, isUsed ? 1 : 0, 1);
        }
    }

    private int depthOf(Element caller, int open) {
        if (open > calls.size()) {
            Check.same("rule 8, no recursion: " + caller, 0, 1);
            return 0;
        }
        if (!depths.containsKey(caller)) {
            int deepest = 0;
            for (Element next : calls.getOrDefault(caller, Set.of())) {
                deepest = Math.max(deepest, depthOf(next, open + 1));
            }
            depths.put(caller, deepest + 1);
        }
        return depths.get(caller);
    }

    @Override
    public Void scan(Tree tree, Void nothing) {
        if (tree != null) {
            must("2, 6, 9 and 10, " + tree.getKind(), tree, !UNUSED.contains(tree.getKind()));
        }
        return super.scan(tree, nothing);
    }

    @Override
    public Void visitImport(ImportTree tree, Void nothing) {
        must("4, " + tree, tree, !tree.isStatic() && IMPORTS.contains(tree.getQualifiedIdentifier().toString()));
        return null;
    }

    @Override
    public Void visitClass(ClassTree tree, Void nothing) {
        classes.add(tree.getSimpleName().toString());
        must("2, no class without a name or of a method", tree,
                !tree.getSimpleName().isEmpty() && method == null);
        must("1, one class is public", tree,
                tree.getModifiers().getFlags().contains(Modifier.PUBLIC) == (classes.size() == 1));
        return super.visitClass(tree, nothing);
    }

    @Override
    public Void visitMethod(MethodTree tree, Void nothing) {
        method = tree;
        calls.put(trees.getElement(getCurrentPath()), new HashSet<>());
        long first = unit.getLineMap().getLineNumber(trees.getSourcePositions().getStartPosition(unit, tree));
        long last = unit.getLineMap().getLineNumber(trees.getSourcePositions().getEndPosition(unit, tree));
        must("11, short: " + tree.getName(), tree, last - first < MOST_LINES);
        must("11, parameters of " + tree.getName(), tree, tree.getParameters().size() <= 7);
        Set<String> announced = new TreeSet<>();
        tree.getThrows().forEach(type -> announced.add(type.toString()));
        must("6, " + tree.getName() + " throws what it says", tree, thrownBy(tree).equals(announced));
        super.visitMethod(tree, nothing);
        method = null;
        return null;
    }

    private static Set<String> thrownBy(MethodTree tree) {
        Set<String> thrown = new TreeSet<>();
        new TreeScanner<Void, Void>() {
            @Override
            public Void visitThrow(ThrowTree found, Void nothing) {
                thrown.add(((NewClassTree) found.getExpression()).getIdentifier().toString());
                return null;
            }
        }.scan(tree, null);
        return thrown;
    }

    @Override
    public Void visitVariable(VariableTree tree, Void nothing) {
        VariableElement variable = (VariableElement) trees.getElement(getCurrentPath());
        String type = String.valueOf(tree.getType());
        must("3, type " + type, tree, TYPES.contains(type) || classIsOwn(type.replace("[]", "")));
        if (variable.getModifiers().contains(Modifier.STATIC)) {
            must("5, " + tree.getName(), tree, variable.getConstantValue() instanceof Number);
            constants.put(tree.getName().toString(), ((Number) variable.getConstantValue()).longValue());
        }
        return super.visitVariable(tree, nothing);
    }

    private boolean classIsOwn(String type) {
        Element own = trees.getElement(trees.getPath(unit, unit.getTypeDecls().get(0)));
        return own.getEnclosedElements().stream().anyMatch(e -> e.getSimpleName().contentEquals(type));
    }

    @Override
    public Void visitMethodInvocation(MethodInvocationTree tree, Void nothing) {
        ExecutableElement called = (ExecutableElement) trees.getElement(getCurrentPath());
        TypeElement owner = (TypeElement) called.getEnclosingElement();
        String name = owner.getQualifiedName() + "." + called.getSimpleName();
        if (!name.startsWith("RectilinearRoof.")) {
            boolean isSuper = tree.getMethodSelect().toString().equals("super") && tree.getArguments().isEmpty();
            must("4, " + name, tree, isSuper || LIBRARY.contains(name));
        } else if (method != null) {
            calls.get(trees.getElement(trees.getPath(unit, method))).add(called);
        }
        return super.visitMethodInvocation(tree, nothing);
    }

    @Override
    public Void visitNewClass(NewClassTree tree, Void nothing) {
        boolean isThrown = getCurrentPath().getParentPath().getLeaf() instanceof ThrowTree;
        must("12, made with the object", tree, isThrown || method == null || isConstructor());
        must("2, no class without a name", tree, tree.getClassBody() == null);
        return super.visitNewClass(tree, nothing);
    }

    @Override
    public Void visitNewArray(NewArrayTree tree, Void nothing) {
        must("12, made with the object", tree, method == null && tree.getDimensions().size() == 1);
        for (Tree length : tree.getDimensions()) {
            Long value = Syntax.constant(length, constants);
            must("7, a length is a constant", tree, value != null && value > 0);
        }
        return super.visitNewArray(tree, nothing);
    }

    private boolean isConstructor() {
        return method.getName().contentEquals("<init>");
    }

    @Override
    public Void visitThrow(ThrowTree tree, Void nothing) {
        NewClassTree made = (NewClassTree) tree.getExpression();
        boolean isText = made.getArguments().size() == 1 && made.getArguments().get(0) instanceof LiteralTree;
        must("6, the exception", tree, EXCEPTIONS.contains(made.getIdentifier().toString()) && isText);
        must("6, thrown by the face", tree,
                !isConstructor() && method.getModifiers().getFlags().contains(Modifier.PUBLIC));
        return super.visitThrow(tree, nothing);
    }

    @Override
    public Void visitLiteral(LiteralTree tree, Void nothing) {
        if (tree.getValue() instanceof String text) {
            must("4, signs of a text", tree, text.chars().allMatch(c -> c >= 1 && c <= 127));
        }
        return super.visitLiteral(tree, nothing);
    }

    @Override
    public Void visitBinary(BinaryTree tree, Void nothing) {
        boolean divides = tree.getKind() == Tree.Kind.DIVIDE || tree.getKind() == Tree.Kind.REMAINDER;
        Long divisor = Syntax.constant(tree.getRightOperand(), constants);
        must("7, a divisor is a constant", tree, !divides || divisor != null && divisor > 0);
        String type = trees.getTypeMirror(getCurrentPath()).toString();
        must("10, numbers and truths alone are joined", tree, Set.of("int", "long", "boolean").contains(type));
        return super.visitBinary(tree, nothing);
    }

    @Override
    public Void visitCompoundAssignment(CompoundAssignmentTree tree, Void nothing) {
        must("7, no division in an assignment", tree, tree.getKind() != Tree.Kind.DIVIDE_ASSIGNMENT
                && tree.getKind() != Tree.Kind.REMAINDER_ASSIGNMENT);
        return super.visitCompoundAssignment(tree, nothing);
    }

    @Override
    public Void visitArrayAccess(ArrayAccessTree tree, Void nothing) {
        must("7, " + tree + " is looked at", tree, method != null && Syntax.isGuarded(tree, method));
        return super.visitArrayAccess(tree, nothing);
    }

    @Override
    public Void visitForLoop(ForLoopTree tree, Void nothing) {
        must("9, an end that can be seen", tree, Syntax.hasVisibleEnd(tree));
        return super.visitForLoop(tree, nothing);
    }
}
