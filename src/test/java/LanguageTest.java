import com.sun.source.tree.AssertTree;
import com.sun.source.tree.BinaryTree;
import com.sun.source.tree.BlockTree;
import com.sun.source.tree.ClassTree;
import com.sun.source.tree.CompilationUnitTree;
import com.sun.source.tree.DoWhileLoopTree;
import com.sun.source.tree.ExpressionTree;
import com.sun.source.tree.ForLoopTree;
import com.sun.source.tree.ImportTree;
import com.sun.source.tree.InstanceOfTree;
import com.sun.source.tree.LambdaExpressionTree;
import com.sun.source.tree.LiteralTree;
import com.sun.source.tree.MemberReferenceTree;
import com.sun.source.tree.MethodInvocationTree;
import com.sun.source.tree.MethodTree;
import com.sun.source.tree.NewClassTree;
import com.sun.source.tree.SynchronizedTree;
import com.sun.source.tree.ThrowTree;
import com.sun.source.tree.Tree;
import com.sun.source.tree.TryTree;
import com.sun.source.tree.TypeCastTree;
import com.sun.source.tree.VariableTree;
import com.sun.source.tree.WhileLoopTree;
import com.sun.source.util.JavacTask;
import com.sun.source.util.SourcePositions;
import com.sun.source.util.TreePath;
import com.sun.source.util.TreePathScanner;
import com.sun.source.util.Trees;
import java.io.File;
import java.util.ArrayList;
import java.util.HashMap;
import java.util.LinkedHashSet;
import java.util.List;
import java.util.Map;
import java.util.Set;
import javax.lang.model.element.Element;
import javax.lang.model.element.ElementKind;
import javax.lang.model.element.ExecutableElement;
import javax.lang.model.element.Modifier;
import javax.lang.model.element.VariableElement;
import javax.lang.model.type.ArrayType;
import javax.lang.model.type.DeclaredType;
import javax.lang.model.type.TypeKind;
import javax.lang.model.type.TypeMirror;
import javax.tools.JavaCompiler;
import javax.tools.StandardJavaFileManager;
import javax.tools.ToolProvider;

/**
 * The rules of LANGUAGE.md as far as they can be seen in the source, by the compiler's own tree of it
 * (rule 1 is FaceTest's). Where the class has no use for what a rule leaves it (while, try, casts among
 * classes, doubles, ..), the test is stricter than the rule.
 */
public final class LanguageTest extends TreePathScanner<Void, Void> {
    private static final String SOURCE = "src/main/java/AppendKeep.java";
    private static final Set<String> IMPORTS = Set.of("java.util.ArrayList", "java.util.Arrays", "java.util.List");
    private static final Set<String> EXCEPTIONS = Set.of("IllegalStateException", "IllegalArgumentException",
        "IndexOutOfBoundsException", "ArithmeticException", "UnsupportedOperationException", "NoSuchElementException",
        "RuntimeException");
    private static final Set<String> LIBRARY = Set.of("ArrayList.add", "ArrayList.get", "ArrayList.set", "ArrayList.remove",
        "ArrayList.size", "ArrayList.isEmpty", "ArrayList.clear", "Math.min", "Math.max", "Math.abs", "Integer.compare",
        "System.arraycopy", "Arrays.copyOf", "Arrays.copyOfRange", "Arrays.fill");
    private static final Set<TypeKind> NUMBERS = Set.of(TypeKind.INT, TypeKind.LONG, TypeKind.SHORT, TypeKind.BYTE,
        TypeKind.CHAR, TypeKind.BOOLEAN);

    private final CompilationUnitTree unit;
    private final Trees trees;
    private final SourcePositions positions;
    private final Map<Element, Set<Element>> calls = new HashMap<>();
    private int classes = 0;
    private int broken = 0;

    private LanguageTest(JavacTask task, CompilationUnitTree unit) {
        this.unit = unit;
        trees = Trees.instance(task);
        positions = trees.getSourcePositions();
    }

    public static void main(String[] args) throws Exception {
        JavaCompiler compiler = ToolProvider.getSystemJavaCompiler();
        StandardJavaFileManager manager = compiler.getStandardFileManager(null, null, null);
        JavacTask task = (JavacTask) compiler.getTask(null, manager, null, List.of("-proc:none"), null,
            manager.getJavaFileObjects(new File(args.length > 0 ? args[0] : SOURCE)));
        CompilationUnitTree unit = task.parse().iterator().next();
        task.analyze();
        LanguageTest test = new LanguageTest(task, unit);
        test.scan(unit, null);
        test.holds(11, "twelve classes", test.classes <= 12, unit);
        test.depths();
        Check.same("places outside the rules", test.broken, 0);
        Check.same("classes were seen", test.classes > 1 ? 1 : 0, 1);
        Check.same("methods were seen", test.calls.size() > 18 ? 1 : 0, 1);
        Check.end();
    }

    private long lineOf(long position) {
        return unit.getLineMap().getLineNumber(position);
    }

    private void holds(int rule, String what, boolean isSo, Tree tree) {
        if (!isSo) {
            broken++;
            System.out.println("line " + lineOf(positions.getStartPosition(unit, tree)) + ", rule " + rule + ": " + what);
        }
    }

    private void never(int rule, String what, Tree tree) {
        holds(rule, "no " + what, false, tree);
    }

    private Element elementOf(Tree tree) {
        return trees.getElement(TreePath.getPath(unit, tree));
    }

    private TypeMirror typeOf(Tree tree) {
        return trees.getTypeMirror(TreePath.getPath(unit, tree));
    }

    private static boolean isOwn(Element e) {
        for (Element at = e; at != null; at = at.getEnclosingElement()) {
            if (at.getSimpleName().contentEquals("AppendKeep")) return true;
        }
        return false;
    }

    private static boolean isNumber(TypeMirror type) {
        return NUMBERS.contains(type.getKind());
    }

    private static boolean isOf(TypeMirror type, String name) {
        return type instanceof DeclaredType d && d.asElement().getSimpleName().contentEquals(name);
    }

    private static boolean isAllowed(TypeMirror type) {
        if (isNumber(type)) return true;
        if (type instanceof ArrayType array) {
            TypeMirror part = array.getComponentType();
            boolean isTwofold = part instanceof ArrayType inner && isNumber(inner.getComponentType());
            return isTwofold || isNumber(part) || part instanceof DeclaredType d && isOwn(d.asElement());
        }
        if (isOf(type, "ArrayList") || isOf(type, "List")) {
            TypeMirror part = ((DeclaredType) type).getTypeArguments().get(0);
            return isOf(part, "Integer") || part instanceof DeclaredType d && isOwn(d.asElement());
        }
        return isOf(type, "String") || type instanceof DeclaredType d && isOwn(d.asElement());
    }

    private static Set<Modifier> modifiers(VariableTree tree) {
        return tree.getModifiers().getFlags();
    }

    /** The nearest method or class around, without the tree itself. */
    private Tree around(Tree tree) {
        TreePath path = TreePath.getPath(unit, tree).getParentPath();
        while (path != null && !(path.getLeaf() instanceof MethodTree) && !(path.getLeaf() instanceof ClassTree)) {
            path = path.getParentPath();
        }
        return path == null ? unit : path.getLeaf();
    }

    @Override
    public Void visitCompilationUnit(CompilationUnitTree tree, Void none) {
        holds(1, "no package line", tree.getPackage() == null, tree);
        holds(1, "one class in the file", tree.getTypeDecls().size() == 1, tree);
        for (ImportTree one : tree.getImports()) {
            holds(4, "an import of what is listed", IMPORTS.contains(one.getQualifiedIdentifier().toString()), one);
        }
        return super.visitCompilationUnit(tree, none);
    }

    @Override
    public Void visitClass(ClassTree tree, Void none) {
        classes++;
        int fields = 0;
        Set<Modifier> flags = tree.getModifiers().getFlags();
        holds(12, "classes that none can override", flags.contains(Modifier.FINAL), tree);
        holds(2, "no class inside a method", !(around(tree) instanceof MethodTree), tree);
        for (Tree member : tree.getMembers()) {
            if (member instanceof BlockTree) never(5, "initialiser block", member);
            if (member instanceof VariableTree v && !modifiers(v).contains(Modifier.STATIC)) fields++;
        }
        holds(11, "twenty fields", fields <= 20, tree);
        return super.visitClass(tree, none);
    }

    @Override
    public Void visitVariable(VariableTree tree, Void none) {
        holds(3, "a type of the list", isAllowed(typeOf(tree)), tree);
        if (modifiers(tree).contains(Modifier.STATIC)) {
            holds(5, "static fields are final", modifiers(tree).contains(Modifier.FINAL), tree);
            TypeMirror type = typeOf(tree);
            boolean isWritten = type instanceof ArrayType
                ? tree.getInitializer() != null && tree.getInitializer().getKind() == Tree.Kind.NEW_ARRAY
                : elementOf(tree) instanceof VariableElement v && v.getConstantValue() != null;
            holds(5, "static fields are constants", isWritten, tree);
        }
        return super.visitVariable(tree, none);
    }

    @Override
    public Void visitMethod(MethodTree tree, Void none) {
        calls.computeIfAbsent(elementOf(tree), key -> new LinkedHashSet<>());
        long lines = lineOf(positions.getEndPosition(unit, tree)) - lineOf(positions.getStartPosition(unit, tree)) + 1;
        holds(11, "seven parameters", tree.getParameters().size() <= 7, tree);
        holds(11, "sixty lines", lines <= 60, tree);
        String name = tree.getName().toString();
        holds(6, "no equals, hashCode, toString", !Set.of("equals", "hashCode", "toString").contains(name), tree);
        holds(6, "not synchronized", !tree.getModifiers().getFlags().contains(Modifier.SYNCHRONIZED), tree);
        return super.visitMethod(tree, none);
    }

    @Override
    public Void visitMethodInvocation(MethodInvocationTree tree, Void none) {
        Element called = elementOf(tree.getMethodSelect());
        Tree caller = around(tree);
        if (!isOwn(called)) {
            String name = called.getEnclosingElement().getSimpleName() + "." + called.getSimpleName();
            boolean isSuper = name.equals("Object.<init>");
            holds(4, "what is listed of the library, not " + name, isSuper || LIBRARY.contains(name), tree);
            ExecutableElement method = (ExecutableElement) called;
            boolean isRemove = name.equals("ArrayList.remove");
            holds(4, "remove(int)", !isRemove || method.getParameters().get(0).asType().getKind() == TypeKind.INT, tree);
        } else if (caller instanceof MethodTree) {
            calls.computeIfAbsent(elementOf(caller), key -> new LinkedHashSet<>()).add(called);
        }
        return super.visitMethodInvocation(tree, none);
    }

    @Override
    public Void visitNewClass(NewClassTree tree, Void none) {
        TypeMirror type = typeOf(tree);
        boolean isThrown = getCurrentPath().getParentPath().getLeaf() instanceof ThrowTree;
        boolean isHeld = isOf(type, "ArrayList") || isOwn(((DeclaredType) type).asElement());
        holds(4, "a new object of an own class or a list", isThrown || isHeld && tree.getClassBody() == null, tree);
        return super.visitNewClass(tree, none);
    }

    @Override
    public Void visitThrow(ThrowTree tree, Void none) {
        ExpressionTree thrown = tree.getExpression();
        boolean isNew = thrown instanceof NewClassTree made && EXCEPTIONS.contains(made.getIdentifier().toString())
            && made.getArguments().size() <= 1 && made.getArguments().stream().allMatch(a -> a instanceof LiteralTree);
        holds(6, "throw new E(\"a written text\")", isNew, tree);
        boolean isInMethod = around(tree) instanceof MethodTree m && !m.getName().contentEquals("<init>");
        holds(6, "no throw in a constructor", isInMethod, tree);
        return super.visitThrow(tree, none);
    }

    @Override
    public Void visitBinary(BinaryTree tree, Void none) {
        TypeMirror left = typeOf(tree.getLeftOperand());
        TypeMirror right = typeOf(tree.getRightOperand());
        boolean isText = isOf(left, "String") || isOf(right, "String");
        holds(10, "no joining or comparing of texts by a sign", !isText, tree);
        return super.visitBinary(tree, none);
    }

    @Override
    public Void visitLiteral(LiteralTree tree, Void none) {
        if (tree.getValue() instanceof String text) {
            holds(4, "signs from 1 to 127", text.chars().allMatch(c -> c >= 1 && c <= 127), tree);
        }
        return super.visitLiteral(tree, none);
    }

    @Override
    public Void visitTypeCast(TypeCastTree tree, Void none) {
        holds(6, "casts of numbers", isNumber(typeOf(tree.getType())) && isNumber(typeOf(tree.getExpression())), tree);
        return super.visitTypeCast(tree, none);
    }

    @Override
    public Void visitForLoop(ForLoopTree tree, Void none) {
        boolean isCounted = tree.getInitializer().size() == 1 && tree.getUpdate().size() == 1 && tree.getCondition() != null;
        holds(9, "a counter and its bound in the loop's own lines", isCounted, tree);
        return super.visitForLoop(tree, none);
    }

    @Override
    public Void visitWhileLoop(WhileLoopTree tree, Void none) {
        never(9, "while", tree);
        return super.visitWhileLoop(tree, none);
    }

    @Override
    public Void visitDoWhileLoop(DoWhileLoopTree tree, Void none) {
        never(9, "do", tree);
        return super.visitDoWhileLoop(tree, none);
    }

    @Override
    public Void visitTry(TryTree tree, Void none) {
        never(6, "try", tree);
        return super.visitTry(tree, none);
    }

    @Override
    public Void visitSynchronized(SynchronizedTree tree, Void none) {
        never(6, "synchronized", tree);
        return super.visitSynchronized(tree, none);
    }

    @Override
    public Void visitAssert(AssertTree tree, Void none) {
        never(6, "assert", tree);
        return super.visitAssert(tree, none);
    }

    @Override
    public Void visitInstanceOf(InstanceOfTree tree, Void none) {
        never(6, "instanceof", tree);
        return super.visitInstanceOf(tree, none);
    }

    @Override
    public Void visitLambdaExpression(LambdaExpressionTree tree, Void none) {
        never(2, "lambda", tree);
        return super.visitLambdaExpression(tree, none);
    }

    @Override
    public Void visitMemberReference(MemberReferenceTree tree, Void none) {
        never(2, "method reference", tree);
        return super.visitMemberReference(tree, none);
    }

    private void depths() {
        for (Element method : calls.keySet()) {
            if (method.getKind() == ElementKind.METHOD || method.getKind() == ElementKind.CONSTRUCTOR) {
                follow(method, new ArrayList<>());
            }
        }
    }

    private void follow(Element method, List<Element> open) {
        holds(8, "no recursion: " + open + " " + method, !open.contains(method), unit);
        holds(11, "eight calls deep: " + open + " " + method, open.size() < 8, unit);
        if (open.contains(method)) return;
        List<Element> now = new ArrayList<>(open);
        now.add(method);
        for (Element next : calls.getOrDefault(method, Set.of())) follow(next, now);
    }
}
