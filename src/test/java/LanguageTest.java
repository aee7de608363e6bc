import com.sun.source.tree.AssertTree;
import com.sun.source.tree.BinaryTree;
import com.sun.source.tree.BlockTree;
import com.sun.source.tree.ClassTree;
import com.sun.source.tree.CompilationUnitTree;
import com.sun.source.tree.CompoundAssignmentTree;
import com.sun.source.tree.DoWhileLoopTree;
import com.sun.source.tree.ExpressionTree;
import com.sun.source.tree.ForLoopTree;
import com.sun.source.tree.ImportTree;
import com.sun.source.tree.InstanceOfTree;
import com.sun.source.tree.LambdaExpressionTree;
import com.sun.source.tree.LiteralTree;
import com.sun.source.tree.MemberReferenceTree;
import com.sun.source.tree.MethodInvocationTree;
import com.sun.source.tree.MethodTree;
import com.sun.source.tree.NewArrayTree;
import com.sun.source.tree.NewClassTree;
import com.sun.source.tree.SynchronizedTree;
import com.sun.source.tree.ThrowTree;
import com.sun.source.tree.Tree;
import com.sun.source.tree.TryTree;
import com.sun.source.tree.TypeCastTree;
import com.sun.source.tree.VariableTree;
import com.sun.source.tree.WhileLoopTree;
import com.sun.source.util.JavacTask;
import com.sun.source.util.TreePath;
import com.sun.source.util.TreePathScanner;
import com.sun.source.util.Trees;
import java.io.IOException;
import java.nio.file.Path;
import java.util.ArrayList;
import java.util.HashMap;
import java.util.HashSet;
import java.util.List;
import java.util.Map;
import java.util.Set;
import java.util.TreeSet;
import javax.lang.model.element.Element;
import javax.lang.model.element.ElementKind;
import javax.lang.model.element.Modifier;
import javax.lang.model.type.TypeKind;
import javax.lang.model.type.TypeMirror;
import javax.tools.JavaCompiler;
import javax.tools.StandardJavaFileManager;
import javax.tools.ToolProvider;

/**
 * The rules of ../shared/LANGUAGE.md that can be seen in the tree of the class's source. Where a rule
 * allows what the class does without (try, instanceof, texts that are joined), this test allows it not.
 */
final class LanguageTest extends TreePathScanner<Void, Void> {
    private static final Path SOURCE = Path.of("src", "main", "java", "Segmentry.java");
    private static final Set<String> LIBRARY = Set.of("java.lang.Math.max", "java.lang.Math.min");
    private static final Set<String> EXCEPTIONS = Set.of("IllegalStateException", "IllegalArgumentException",
        "IndexOutOfBoundsException", "NoSuchElementException");
    private static final Set<String> TYPES = Set.of("int", "char", "boolean", "int[]", "char[]");
    private static final int MOST_CLASSES = 12;
    private static final int MOST_FIELDS = 20;
    private static final int MOST_PARAMETERS = 7;
    private static final int MOST_LINES = 60;
    private static final int MOST_DEPTH = 8;

    private final Trees trees;
    private final CompilationUnitTree unit;
    private final List<String> classes = new ArrayList<>();
    private final Set<String> publicNames = new HashSet<>();
    private final Map<String, String> privateNames = new HashMap<>();
    private final Map<String, Set<String>> calls = new HashMap<>();
    private final Map<Integer, List<String>> offences = new HashMap<>();

    private LanguageTest(Trees trees, CompilationUnitTree unit) {
        this.trees = trees;
        this.unit = unit;
    }

    public static void main(String[] args) throws IOException {
        JavaCompiler compiler = ToolProvider.getSystemJavaCompiler();
        try (StandardJavaFileManager files = compiler.getStandardFileManager(null, null, null)) {
            JavacTask task = (JavacTask) compiler.getTask(null, files, null, List.of("-proc:none"), null,
                files.getJavaFileObjects(SOURCE));
            CompilationUnitTree unit = task.parse().iterator().next();
            task.analyze();
            LanguageTest test = new LanguageTest(Trees.instance(task), unit);
            test.scan(unit, null);
            test.lookAtTheWhole();
        }
        Check.end();
    }

    private void lookAtTheWhole() {
        expect(1, unit.getPackageName() == null, "there is a package line", unit);
        expect(1, unit.getTypeDecls().size() == 1, "there is not just one class at the top", unit);
        expect(11, classes.size() <= MOST_CLASSES, "there are " + classes.size() + " classes", unit);
        privateNames.forEach((name, where) -> {
            if (publicNames.contains(name)) {
                note(1, where + " is private and bears a public name");
            }
        });
        int deepest = 0;
        for (String method : calls.keySet()) {
            deepest = Math.max(deepest, depth(method, new ArrayList<>()));
        }
        Check.due("rule 11: calls of the class were found", "" + (deepest > 1), "true");
        if (deepest > MOST_DEPTH) {
            note(11, "calls go " + deepest + " deep");
        }
        for (int rule = 1; rule <= 13; rule++) {
            Check.due("rule " + rule, String.join("; ", offences.getOrDefault(rule, List.of())), "");
        }
    }

    private int depth(String method, List<String> open) {
        if (open.contains(method)) {
            note(8, method + " calls itself");
            return 0;
        }
        open.add(method);
        int deepest = 0;
        for (String called : calls.getOrDefault(method, Set.of())) {
            deepest = Math.max(deepest, depth(called, open));
        }
        open.remove(method);
        return deepest + 1;
    }

    private void expect(int rule, boolean holds, String offence, Tree tree) {
        if (!holds) {
            note(rule, offence + " (line " + line(tree) + ")");
        }
    }

    private void note(int rule, String offence) {
        offences.computeIfAbsent(rule, number -> new ArrayList<>()).add(offence);
    }

    private long line(Tree tree) {
        return unit.getLineMap().getLineNumber(trees.getSourcePositions().getStartPosition(unit, tree));
    }

    private long lines(Tree tree) {
        long end = trees.getSourcePositions().getEndPosition(unit, tree);
        return unit.getLineMap().getLineNumber(end) - line(tree) + 1;
    }

    private String type(Tree tree) {
        TypeMirror type = trees.getTypeMirror(new TreePath(getCurrentPath(), tree));
        return type == null ? "" : type.toString();
    }

    private MethodTree enclosingMethod() {
        TreePath path = getCurrentPath();
        while (path != null && !(path.getLeaf() instanceof MethodTree)) {
            path = path.getParentPath();
        }
        return path == null ? null : (MethodTree) path.getLeaf();
    }

    private boolean isInConstructor() {
        MethodTree method = enclosingMethod();
        return method == null || method.getName().contentEquals("<init>");
    }

    private boolean isOwn(String type) {
        return type.equals("Segmentry") || type.startsWith("Segmentry.");
    }

    private void expectType(String type, Tree tree) {
        String plain = type.endsWith("[]") ? type.substring(0, type.length() - 2) : type;
        expect(3, TYPES.contains(type) || isOwn(plain), "the type " + type, tree);
    }

    @Override
    public Void visitImport(ImportTree tree, Void none) {
        String name = tree.getQualifiedIdentifier().toString();
        expect(4, name.equals("java.util.NoSuchElementException"), "the import of " + name, tree);
        return null;
    }

    @Override
    public Void visitClass(ClassTree tree, Void none) {
        String name = tree.getSimpleName().toString();
        Set<Modifier> modifiers = tree.getModifiers().getFlags();
        classes.add(name);
        if (classes.size() == 1) {
            expect(1, name.equals("Segmentry"), "the class " + name, tree);
        } else {
            Tree around = getCurrentPath().getParentPath().getLeaf();
            expect(2, around instanceof ClassTree && modifiers.contains(Modifier.STATIC), name + " is not static", tree);
        }
        int fields = 0;
        for (Tree member : tree.getMembers()) {
            expect(5, !(member instanceof BlockTree), "an initialiser block", member);
            if (member instanceof VariableTree field && !field.getModifiers().getFlags().contains(Modifier.STATIC)) {
                fields++;
            }
        }
        expect(11, fields <= MOST_FIELDS, name + " has " + fields + " fields", tree);
        return super.visitClass(tree, none);
    }

    @Override
    public Void visitMethod(MethodTree tree, Void none) {
        String name = tree.getName().toString();
        Set<Modifier> modifiers = tree.getModifiers().getFlags();
        if (modifiers.contains(Modifier.PUBLIC)) {
            publicNames.add(name);
        } else if (modifiers.contains(Modifier.PRIVATE) && tree.getReturnType() != null) {
            privateNames.put(name, name + " (line " + line(tree) + ")");
        }
        calls.computeIfAbsent(told(trees.getElement(getCurrentPath())), method -> new TreeSet<>());
        expect(6, !Set.of("equals", "hashCode", "toString").contains(name), "a method " + name, tree);
        expect(11, tree.getParameters().size() <= MOST_PARAMETERS, name + " has too many parameters", tree);
        expect(11, lines(tree) <= MOST_LINES, name + " has " + lines(tree) + " lines", tree);
        if (tree.getReturnType() != null && !tree.getReturnType().toString().equals("void")) {
            expectType(type(tree.getReturnType()), tree);
        }
        return super.visitMethod(tree, none);
    }

    private static String told(Element method) {
        return method.getEnclosingElement() + "." + method;
    }

    @Override
    public Void visitVariable(VariableTree tree, Void none) {
        Element variable = trees.getElement(getCurrentPath());
        Set<Modifier> modifiers = variable.getModifiers();
        expectType(variable.asType().toString(), tree);
        if (modifiers.contains(Modifier.STATIC)) {
            expect(5, modifiers.contains(Modifier.FINAL), tree.getName() + " is not final", tree);
            expect(5, variable.asType().getKind().isPrimitive(), tree.getName() + " is no constant", tree);
        }
        return super.visitVariable(tree, none);
    }

    @Override
    public Void visitMethodInvocation(MethodInvocationTree tree, Void none) {
        Element called = trees.getElement(new TreePath(getCurrentPath(), tree.getMethodSelect()));
        String owner = called.getEnclosingElement().toString();
        if (isOwn(owner)) {
            MethodTree caller = enclosingMethod();
            Element from = caller == null ? null : trees.getElement(trees.getPath(unit, caller));
            calls.computeIfAbsent(from == null ? "" : told(from), method -> new TreeSet<>()).add(told(called));
        } else if (called.getKind() != ElementKind.CONSTRUCTOR) {
            String name = owner + "." + called.getSimpleName();
            expect(4, LIBRARY.contains(name), "a call of " + name, tree);
        }
        return super.visitMethodInvocation(tree, none);
    }

    @Override
    public Void visitNewClass(NewClassTree tree, Void none) {
        String name = type(tree);
        boolean isThrown = getCurrentPath().getParentPath().getLeaf() instanceof ThrowTree;
        expect(2, tree.getClassBody() == null, "an anonymous class", tree);
        expect(12, isThrown || isOwn(name) && isInConstructor(), "an object " + name + " outside of a constructor", tree);
        return super.visitNewClass(tree, none);
    }

    @Override
    public Void visitNewArray(NewArrayTree tree, Void none) {
        expect(12, isInConstructor(), "an array outside of a constructor", tree);
        return super.visitNewArray(tree, none);
    }

    @Override
    public Void visitThrow(ThrowTree tree, Void none) {
        boolean isPlain = false;
        if (tree.getExpression() instanceof NewClassTree made) {
            boolean isText = made.getArguments().size() == 1 && made.getArguments().get(0) instanceof LiteralTree;
            isPlain = EXCEPTIONS.contains(made.getIdentifier().toString()) && (made.getArguments().isEmpty() || isText);
        }
        expect(6, isPlain, "a throw that is not plain", tree);
        expect(6, !isInConstructor(), "a throw in a constructor", tree);
        return super.visitThrow(tree, none);
    }

    @Override
    public Void visitBinary(BinaryTree tree, Void none) {
        expect(10, !type(tree).equals("java.lang.String"), "texts that are joined by +", tree);
        boolean compares = tree.getKind() == Tree.Kind.EQUAL_TO || tree.getKind() == Tree.Kind.NOT_EQUAL_TO;
        boolean ofNumbers = isPrimitive(tree.getLeftOperand()) && isPrimitive(tree.getRightOperand());
        expect(6, !compares || ofNumbers, "objects that are compared", tree);
        boolean divides = tree.getKind() == Tree.Kind.DIVIDE || tree.getKind() == Tree.Kind.REMAINDER;
        expect(7, !divides || isSafeDivisor(tree.getRightOperand()), "a divisor", tree);
        return super.visitBinary(tree, none);
    }

    private boolean isPrimitive(ExpressionTree tree) {
        TypeMirror type = trees.getTypeMirror(new TreePath(getCurrentPath(), tree));
        return type.getKind().isPrimitive() && type.getKind() != TypeKind.DOUBLE && type.getKind() != TypeKind.FLOAT;
    }

    /** A number that is written there, or the unit that the loop round it holds above 0. */
    private static boolean isSafeDivisor(ExpressionTree tree) {
        return tree instanceof LiteralTree literal && !literal.getValue().equals(0) || tree.toString().equals("unit");
    }

    @Override
    public Void visitCompoundAssignment(CompoundAssignmentTree tree, Void none) {
        boolean divides = Set.of(Tree.Kind.DIVIDE_ASSIGNMENT, Tree.Kind.REMAINDER_ASSIGNMENT).contains(tree.getKind());
        expect(7, !divides || isSafeDivisor(tree.getExpression()), "a divisor", tree);
        return super.visitCompoundAssignment(tree, none);
    }

    @Override
    public Void visitLiteral(LiteralTree tree, Void none) {
        String text = tree.getValue() instanceof String || tree.getValue() instanceof Character ? "" + tree.getValue() : "";
        expect(4, text.chars().allMatch(sign -> sign >= 1 && sign <= 127), "a sign that is not 1 to 127", tree);
        return super.visitLiteral(tree, none);
    }

    @Override
    public Void visitTypeCast(TypeCastTree tree, Void none) {
        expect(6, tree.getType().toString().equals("char"), "a cast to " + tree.getType(), tree);
        return super.visitTypeCast(tree, none);
    }

    @Override
    public Void visitWhileLoop(WhileLoopTree tree, Void none) {
        expect(9, tree.getCondition().toString().contains("<"), "a while without a bound", tree);
        return super.visitWhileLoop(tree, none);
    }

    @Override
    public Void visitDoWhileLoop(DoWhileLoopTree tree, Void none) {
        expect(9, tree.getCondition().toString().contains("<"), "a do without a bound", tree);
        return super.visitDoWhileLoop(tree, none);
    }

    @Override
    public Void visitForLoop(ForLoopTree tree, Void none) {
        expect(9, tree.getCondition() != null && tree.getUpdate().size() == 1, "a for without a bound", tree);
        return super.visitForLoop(tree, none);
    }

    @Override
    public Void visitLambdaExpression(LambdaExpressionTree tree, Void none) {
        note(2, "a lambda (line " + line(tree) + ")");
        return null;
    }

    @Override
    public Void visitMemberReference(MemberReferenceTree tree, Void none) {
        note(2, "a method reference (line " + line(tree) + ")");
        return null;
    }

    @Override
    public Void visitTry(TryTree tree, Void none) {
        note(6, "a try (line " + line(tree) + ")");
        return super.visitTry(tree, none);
    }

    @Override
    public Void visitSynchronized(SynchronizedTree tree, Void none) {
        note(6, "synchronized (line " + line(tree) + ")");
        return super.visitSynchronized(tree, none);
    }

    @Override
    public Void visitAssert(AssertTree tree, Void none) {
        note(6, "an assert (line " + line(tree) + ")");
        return super.visitAssert(tree, none);
    }

    @Override
    public Void visitInstanceOf(InstanceOfTree tree, Void none) {
        note(6, "an instanceof (line " + line(tree) + ")");
        return super.visitInstanceOf(tree, none);
    }
}
