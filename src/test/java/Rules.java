import com.sun.source.tree.AssertTree;
import com.sun.source.tree.BinaryTree;
import com.sun.source.tree.BlockTree;
import com.sun.source.tree.CatchTree;
import com.sun.source.tree.ClassTree;
import com.sun.source.tree.CompilationUnitTree;
import com.sun.source.tree.ExpressionTree;
import com.sun.source.tree.ForLoopTree;
import com.sun.source.tree.InstanceOfTree;
import com.sun.source.tree.LambdaExpressionTree;
import com.sun.source.tree.LiteralTree;
import com.sun.source.tree.MemberReferenceTree;
import com.sun.source.tree.MethodInvocationTree;
import com.sun.source.tree.MethodTree;
import com.sun.source.tree.NewClassTree;
import com.sun.source.tree.SynchronizedTree;
import com.sun.source.tree.ThrowTree;
import com.sun.source.tree.Tree;
import com.sun.source.tree.TryTree;
import com.sun.source.tree.VariableTree;
import com.sun.source.tree.WhileLoopTree;
import com.sun.source.util.JavacTask;
import com.sun.source.util.TreePath;
import com.sun.source.util.TreePathScanner;
import com.sun.source.util.Trees;
import java.io.IOException;
import java.net.URI;
import java.util.HashMap;
import java.util.HashSet;
import java.util.LinkedHashSet;
import java.util.List;
import java.util.Map;
import java.util.Set;
import java.util.TreeSet;
import javax.lang.model.element.Element;
import javax.lang.model.element.ElementKind;
import javax.lang.model.element.ExecutableElement;
import javax.lang.model.element.Modifier;
import javax.lang.model.element.TypeElement;
import javax.lang.model.element.VariableElement;
import javax.lang.model.type.TypeMirror;
import javax.tools.JavaCompiler;
import javax.tools.JavaFileObject;
import javax.tools.SimpleJavaFileObject;
import javax.tools.ToolProvider;

/** Reads a source as the compiler does, and tells where it leaves the rules of LANGUAGE.md. */
final class Rules extends TreePathScanner<Void, Void> {
    private static final int MOST_PARAMETERS = 7;
    private static final int MOST_LINES = 60;
    private static final int MOST_CLASSES = 12;
    private static final int MOST_FIELDS = 20;
    private static final int MOST_DEPTH = 8;

    private static final Set<String> TYPES = Set.of("int", "long", "short", "byte", "char",
            "boolean", "double", "float", "java.lang.String", "java.lang.StringBuilder",
            "java.lang.Integer");
    // Of the library the class uses less than rule 4 leaves; what is new here is looked up there.
    private static final Set<String> LIBRARY = Set.of("java.lang.System.arraycopy",
            "java.util.Arrays.fill", "java.lang.Math.max", "java.lang.Math.min",
            "java.lang.String.length", "java.lang.String.charAt", "java.lang.String.equals");
    private static final Set<String> EXCEPTIONS = Set.of("java.lang.IllegalStateException",
            "java.lang.IllegalArgumentException", "java.lang.IndexOutOfBoundsException",
            "java.lang.ArithmeticException", "java.lang.UnsupportedOperationException",
            "java.util.NoSuchElementException", "java.lang.RuntimeException");

    private final Trees trees;
    private final CompilationUnitTree unit;
    private final Set<String> broken = new TreeSet<>();
    private final Map<Element, Set<Element>> calls = new HashMap<>();
    private final Map<Element, Integer> depths = new HashMap<>();
    private int classes;

    private Rules(Trees trees, CompilationUnitTree unit) {
        this.trees = trees;
        this.unit = unit;
    }

    /** What is broken in a source, each as the rule's number and a text; empty if nothing is. */
    static Set<String> brokenIn(String source) throws IOException {
        JavaCompiler compiler = ToolProvider.getSystemJavaCompiler();
        JavaFileObject file = new SimpleJavaFileObject(URI.create("string:///MovingList.java"),
                JavaFileObject.Kind.SOURCE) {
            @Override
            public CharSequence getCharContent(boolean ignored) {
                return source;
            }
        };
        StringBuilder errors = new StringBuilder();
        JavacTask task = (JavacTask) compiler.getTask(null, null, d -> errors.append(d), null, null,
                List.of(file));
        CompilationUnitTree unit = task.parse().iterator().next();
        task.analyze();
        if (errors.length() > 0) {
            return Set.of("0 " + errors);
        }
        Rules rules = new Rules(Trees.instance(task), unit);
        rules.scan(unit, null);
        rules.end();
        return rules.broken;
    }

    private void end() {
        if (classes > MOST_CLASSES) {
            breaks(11, classes + " classes");
        }
        for (Element method : calls.keySet()) {
            int depth = depthOf(method, new LinkedHashSet<>());
            if (depth > MOST_DEPTH) {
                breaks(11, "calls go deep: " + method + " " + depth);
            }
        }
    }

    private int depthOf(Element method, Set<Element> open) {
        Integer known = depths.get(method);
        if (known != null) {
            return known;
        }
        if (!open.add(method)) {
            breaks(8, "calls itself: " + method);
            return 0;
        }
        int most = 0;
        for (Element called : calls.getOrDefault(method, Set.of())) {
            most = Math.max(most, depthOf(called, open));
        }
        open.remove(method);
        depths.put(method, most + 1);
        return most + 1;
    }

    private void breaks(int rule, String text) {
        broken.add(rule + " " + text.replaceAll("\\s+", " "));
    }

    private Element element() {
        return trees.getElement(getCurrentPath());
    }

    private static boolean isOurs(Element e) {
        Element at = e;
        while (at != null && !(at instanceof TypeElement)) {
            at = at.getEnclosingElement();
        }
        return at != null && !((TypeElement) at).getQualifiedName().toString().startsWith("java.");
    }

    private Element methodAround() {
        for (TreePath at = getCurrentPath(); at != null; at = at.getParentPath()) {
            if (at.getLeaf() instanceof MethodTree) {
                return trees.getElement(at);
            }
        }
        return null;
    }

    @Override
    public Void visitClass(ClassTree tree, Void v) {
        classes++;
        Element e = element();
        boolean top = e.getEnclosingElement().getKind() == ElementKind.PACKAGE;
        boolean nested = e.getEnclosingElement().getKind().isClass();
        if (!top && !nested) {
            breaks(2, "a local class " + e);
        }
        if (nested && (!e.getModifiers().contains(Modifier.STATIC)
                || e.getModifiers().contains(Modifier.PUBLIC)
                || e.getModifiers().contains(Modifier.PROTECTED))) {
            breaks(1, "a class inside that is not static or is seen " + e);
        }
        int fields = 0;
        for (Element member : e.getEnclosedElements()) {
            fields += member.getKind() == ElementKind.FIELD
                    && !member.getModifiers().contains(Modifier.STATIC) ? 1 : 0;
        }
        if (fields > MOST_FIELDS) {
            breaks(11, fields + " fields in " + e);
        }
        for (Tree member : tree.getMembers()) {
            if (member instanceof BlockTree) {
                breaks(5, "an initialiser block in " + e);
            }
        }
        return super.visitClass(tree, v);
    }

    @Override
    public Void visitMethod(MethodTree tree, Void v) {
        ExecutableElement e = (ExecutableElement) element();
        calls.computeIfAbsent(e, k -> new HashSet<>());
        if (tree.getParameters().size() > MOST_PARAMETERS) {
            breaks(11, "many parameters: " + e);
        }
        long start = unit.getLineMap().getLineNumber(
                Math.max(0, trees.getSourcePositions().getStartPosition(unit, tree)));
        long last = unit.getLineMap().getLineNumber(
                Math.max(0, trees.getSourcePositions().getEndPosition(unit, tree)));
        if (last - start + 1 > MOST_LINES) {
            breaks(11, "a long method: " + e);
        }
        if (Set.of("equals", "hashCode", "toString").contains(e.getSimpleName().toString())) {
            breaks(6, "a method " + e);
        }
        if (e.getModifiers().contains(Modifier.SYNCHRONIZED)) {
            breaks(6, "synchronized " + e);
        }
        return super.visitMethod(tree, v);
    }

    @Override
    public Void visitVariable(VariableTree tree, Void v) {
        Element e = element();
        TypeMirror type = e.asType();
        String name = type.toString().replaceAll("(\\[\\]){1,2}$", "").replaceAll("<.*", "");
        if (!TYPES.contains(name) && name.startsWith("java.")
                && !name.matches("java\\.util\\.(Array)?List")) {
            breaks(3, "a variable of " + type);
        }
        boolean field = e instanceof VariableElement && e.getKind() == ElementKind.FIELD;
        if (field && e.getModifiers().contains(Modifier.STATIC)
                && !e.getModifiers().contains(Modifier.FINAL)) {
            breaks(5, "a static field that is not final: " + e);
        }
        if (field && e.getEnclosingElement().getKind() == ElementKind.ENUM
                && !e.getModifiers().contains(Modifier.STATIC)
                && !Set.of("int", "long", "boolean", "java.lang.String").contains(type.toString())) {
            breaks(2, "a field of an enum: " + e);
        }
        return super.visitVariable(tree, v);
    }

    @Override
    public Void visitMethodInvocation(MethodInvocationTree tree, Void v) {
        called(element());
        return super.visitMethodInvocation(tree, v);
    }

    @Override
    public Void visitNewClass(NewClassTree tree, Void v) {
        Element e = element();
        String made = e.getEnclosingElement().toString();
        if (isOurs(e)) {
            called(e);
        } else if (!EXCEPTIONS.contains(made)) {
            breaks(4, "new " + made);
        }
        return super.visitNewClass(tree, v);
    }

    private void called(Element e) {
        String name = e.getEnclosingElement() + "." + e.getSimpleName();
        boolean values = e.getSimpleName().contentEquals("values")
                && e.getEnclosingElement().getKind() == ElementKind.ENUM;
        Element around = methodAround();
        if (e.getSimpleName().contentEquals("<init>") && !isOurs(e)) {
            return;
        }
        if (values && around != null) {
            breaks(12, "values() in " + around);
        }
        if (!isOurs(e) && !LIBRARY.contains(name)) {
            breaks(4, "a call of " + name);
        }
        if (isOurs(e) && around != null) {
            calls.computeIfAbsent(around, k -> new HashSet<>()).add(e);
        }
    }

    @Override
    public Void visitThrow(ThrowTree tree, Void v) {
        Element around = methodAround();
        if (around != null && around.getKind() == ElementKind.CONSTRUCTOR) {
            breaks(6, "a throw in a constructor");
        }
        boolean plain = tree.getExpression() instanceof NewClassTree;
        if (plain) {
            List<? extends ExpressionTree> args =
                    ((NewClassTree) tree.getExpression()).getArguments();
            plain = args.isEmpty() || args.size() == 1 && args.get(0) instanceof LiteralTree;
        }
        if (!plain) {
            breaks(6, "not a plain throw: " + tree);
        }
        return super.visitThrow(tree, v);
    }

    @Override
    public Void visitTry(TryTree tree, Void v) {
        if (tree.getFinallyBlock() != null || !tree.getResources().isEmpty()) {
            breaks(6, "finally or resources");
        }
        return super.visitTry(tree, v);
    }

    @Override
    public Void visitCatch(CatchTree tree, Void v) {
        // The class has none, so no catch can answer a call by what the machine throws.
        breaks(6, "a catch");
        return super.visitCatch(tree, v);
    }

    @Override
    public Void visitBinary(BinaryTree tree, Void v) {
        TreePath left = new TreePath(getCurrentPath(), tree.getLeftOperand());
        TreePath right = new TreePath(getCurrentPath(), tree.getRightOperand());
        boolean text = isText(left) || isText(right);
        if (text && tree.getKind() == Tree.Kind.PLUS) {
            breaks(10, "texts joined by +");
        }
        if (text && (tree.getKind() == Tree.Kind.EQUAL_TO
                || tree.getKind() == Tree.Kind.NOT_EQUAL_TO)) {
            breaks(6, "texts compared: " + tree);
        }
        return super.visitBinary(tree, v);
    }

    private boolean isText(TreePath path) {
        TypeMirror type = trees.getTypeMirror(path);
        return type != null && type.toString().equals("java.lang.String");
    }

    @Override
    public Void visitForLoop(ForLoopTree tree, Void v) {
        if (tree.getCondition() == null || tree.getCondition() instanceof LiteralTree) {
            breaks(9, "a loop without a bound");
        }
        return super.visitForLoop(tree, v);
    }

    @Override
    public Void visitWhileLoop(WhileLoopTree tree, Void v) {
        if (tree.getCondition().toString().equals("(true)")) {
            breaks(9, "a loop without a bound");
        }
        return super.visitWhileLoop(tree, v);
    }

    @Override
    public Void visitLambdaExpression(LambdaExpressionTree tree, Void v) {
        breaks(2, "a lambda");
        return super.visitLambdaExpression(tree, v);
    }

    @Override
    public Void visitMemberReference(MemberReferenceTree tree, Void v) {
        breaks(2, "a method reference");
        return super.visitMemberReference(tree, v);
    }

    @Override
    public Void visitSynchronized(SynchronizedTree tree, Void v) {
        breaks(6, "synchronized");
        return super.visitSynchronized(tree, v);
    }

    @Override
    public Void visitAssert(AssertTree tree, Void v) {
        breaks(6, "assert");
        return super.visitAssert(tree, v);
    }

    @Override
    public Void visitInstanceOf(InstanceOfTree tree, Void v) {
        // Fine by rule 6, but this class has no kinds of objects to tell apart.
        breaks(6, "instanceof");
        return super.visitInstanceOf(tree, v);
    }
}
