import com.sun.source.tree.AssertTree;
import com.sun.source.tree.BinaryTree;
import com.sun.source.tree.BlockTree;
import com.sun.source.tree.CatchTree;
import com.sun.source.tree.ClassTree;
import com.sun.source.tree.CompilationUnitTree;
import com.sun.source.tree.CompoundAssignmentTree;
import com.sun.source.tree.DoWhileLoopTree;
import com.sun.source.tree.ExpressionTree;
import com.sun.source.tree.ForLoopTree;
import com.sun.source.tree.ImportTree;
import com.sun.source.tree.LambdaExpressionTree;
import com.sun.source.tree.LiteralTree;
import com.sun.source.tree.MemberReferenceTree;
import com.sun.source.tree.MethodInvocationTree;
import com.sun.source.tree.MethodTree;
import com.sun.source.tree.NewClassTree;
import com.sun.source.tree.ParenthesizedTree;
import com.sun.source.tree.SynchronizedTree;
import com.sun.source.tree.ThrowTree;
import com.sun.source.tree.Tree;
import com.sun.source.tree.TryTree;
import com.sun.source.tree.WhileLoopTree;
import com.sun.source.util.JavacTask;
import com.sun.source.util.TreePath;
import com.sun.source.util.TreePathScanner;
import com.sun.source.util.Trees;
import java.io.IOException;
import java.io.UncheckedIOException;
import java.net.URI;
import java.util.ArrayList;
import java.util.HashMap;
import java.util.HashSet;
import java.util.List;
import java.util.Map;
import java.util.Set;
import java.util.TreeSet;
import javax.lang.model.element.Element;
import javax.lang.model.element.ElementKind;
import javax.lang.model.element.ExecutableElement;
import javax.lang.model.element.TypeElement;
import javax.lang.model.element.VariableElement;
import javax.lang.model.type.TypeMirror;
import javax.tools.JavaFileObject;
import javax.tools.SimpleJavaFileObject;
import javax.tools.ToolProvider;

/** What a source text breaks of LANGUAGE.md, as far as it can be seen from the text and its types. */
final class Language extends TreePathScanner<Void, Void> {
    private static final int LINES_MOST = 60;
    private static final int CALLS_DEEPEST = 8;
    private static final Set<String> EXCEPTIONS = Set.of("IllegalStateException", "IllegalArgumentException",
        "IndexOutOfBoundsException", "ArithmeticException", "UnsupportedOperationException", "NoSuchElementException",
        "RuntimeException");
    private static final Set<String> LISTS = Set.of("<init>", "add", "get", "set", "remove", "size", "isEmpty", "clear", "of");
    private static final Map<String, Set<String>> LIBRARY = Map.of(
        "Object", Set.of("<init>"),
        "String", Set.of("<init>", "length", "charAt", "isEmpty", "equals", "indexOf", "substring", "toCharArray"),
        "StringBuilder", Set.of("<init>", "append", "charAt", "setCharAt", "setLength", "deleteCharAt", "reverse", "length",
            "toString"),
        "ArrayList", LISTS,
        "List", LISTS,
        "System", Set.of("arraycopy"),
        "Arrays", Set.of("copyOf", "copyOfRange", "fill"));

    private final Set<String> faults = new TreeSet<>();
    private final Map<Element, Set<Element>> calls = new HashMap<>();
    private final Trees trees;
    private final CompilationUnitTree unit;

    private Language(Trees trees, CompilationUnitTree unit) {
        this.trees = trees;
        this.unit = unit;
    }

    /** The faults of the class SchemeSystem in this text, each beginning with its rule's number. */
    static Set<String> faults(String source) {
        JavacTask task = (JavacTask) ToolProvider.getSystemJavaCompiler().getTask(null, null, null,
            List.of("-proc:none", "--release", "17"), null, List.of(inMemory(source)));
        try {
            List<CompilationUnitTree> units = new ArrayList<>();
            task.parse().forEach(units::add);
            task.analyze();
            Language language = new Language(Trees.instance(task), units.get(0));
            language.scan(units.get(0), null);
            language.callsDeep();
            return language.faults;
        } catch (IOException e) {
            throw new UncheckedIOException(e);
        }
    }

    private static JavaFileObject inMemory(String source) {
        return new SimpleJavaFileObject(URI.create("string:///SchemeSystem.java"), JavaFileObject.Kind.SOURCE) {
            @Override
            public CharSequence getCharContent(boolean ignoreErrors) {
                return source;
            }
        };
    }

    private void fault(int rule, String what, Tree tree) {
        faults.add("rule " + rule + ", line " + line(trees.getSourcePositions().getStartPosition(unit, tree)) + ": " + what);
    }

    private long line(long position) {
        return unit.getLineMap().getLineNumber(position);
    }

    private void need(boolean right, int rule, String what, Tree tree) {
        if (!right) {
            fault(rule, what, tree);
        }
    }

    private TypeMirror typeOf(Tree tree) {
        return trees.getTypeMirror(new TreePath(getCurrentPath(), tree));
    }

    private MethodTree methodAround() {
        for (TreePath one = getCurrentPath(); one != null; one = one.getParentPath()) {
            if (one.getLeaf() instanceof MethodTree method) {
                return method;
            }
        }
        return null;
    }

    private static boolean isTrue(ExpressionTree condition) {
        ExpressionTree one = condition;
        while (one instanceof ParenthesizedTree inBrackets) {
            one = inBrackets.getExpression();
        }
        return one instanceof LiteralTree literal && Boolean.TRUE.equals(literal.getValue());
    }

    @Override
    public Void visitImport(ImportTree tree, Void nothing) {
        need(!tree.isStatic() && !tree.getQualifiedIdentifier().toString().endsWith("*"), 4, "imports by name", tree);
        return super.visitImport(tree, nothing);
    }

    @Override
    public Void visitClass(ClassTree tree, Void nothing) {
        for (Tree member : tree.getMembers()) {
            need(!(member instanceof BlockTree block) || !block.isStatic(), 5, "static initialiser block", member);
        }
        return super.visitClass(tree, nothing);
    }

    @Override
    public Void visitLambdaExpression(LambdaExpressionTree tree, Void nothing) {
        fault(2, "lambda", tree);
        return super.visitLambdaExpression(tree, nothing);
    }

    @Override
    public Void visitMemberReference(MemberReferenceTree tree, Void nothing) {
        fault(2, "method reference", tree);
        return super.visitMemberReference(tree, nothing);
    }

    @Override
    public Void visitMethod(MethodTree tree, Void nothing) {
        long start = line(trees.getSourcePositions().getStartPosition(unit, tree));
        long end = line(Math.max(0, trees.getSourcePositions().getEndPosition(unit, tree)));
        need(end - start < LINES_MOST, 11, "a method stays short", tree);
        need(tree.getParameters().size() <= 7, 11, "at most seven parameters", tree);
        return super.visitMethod(tree, nothing);
    }

    @Override
    public Void visitMethodInvocation(MethodInvocationTree tree, Void nothing) {
        called(trees.getElement(getCurrentPath()), tree);
        return super.visitMethodInvocation(tree, nothing);
    }

    @Override
    public Void visitNewClass(NewClassTree tree, Void nothing) {
        called(trees.getElement(getCurrentPath()), tree);
        return super.visitNewClass(tree, nothing);
    }

    private void called(Element element, Tree tree) {
        if (!(element instanceof ExecutableElement method)) {
            fault(4, "not known to the compiler: " + tree, tree);
            return;
        }
        TypeElement owner = (TypeElement) method.getEnclosingElement();
        if (owner.getQualifiedName().toString().startsWith("SchemeSystem")) {
            MethodTree caller = methodAround();
            if (caller != null) {
                calls.computeIfAbsent(trees.getElement(trees.getPath(unit, caller)), one -> new HashSet<>()).add(method);
            }
            return;
        }
        need(inLibrary(owner.getSimpleName().toString(), method), 4, "not in the library: " + owner + "." + method, tree);
    }

    private static boolean inLibrary(String owner, ExecutableElement method) {
        String name = method.getSimpleName().toString();
        if (Set.of("Integer", "Long", "Math").contains(owner)) {
            boolean whole = true;
            for (VariableElement one : method.getParameters()) {
                whole = whole && Set.of("int", "long").contains(one.asType().toString());
            }
            return whole && !name.endsWith("Exact");
        }
        boolean exception = EXCEPTIONS.contains(owner) && method.getKind() == ElementKind.CONSTRUCTOR;
        return exception || LIBRARY.getOrDefault(owner, Set.of()).contains(name);
    }

    @Override
    public Void visitThrow(ThrowTree tree, Void nothing) {
        boolean right = false;
        if (tree.getExpression() instanceof NewClassTree made && EXCEPTIONS.contains(made.getIdentifier().toString())) {
            List<? extends ExpressionTree> with = made.getArguments();
            right = with.isEmpty() || with.size() == 1 && with.get(0) instanceof LiteralTree;
        }
        need(right, 6, "throw new E() or throw new E(\"a written text\")", tree);
        MethodTree around = methodAround();
        need(around != null && around.getReturnType() != null, 6, "no throw in a constructor", tree);
        return super.visitThrow(tree, nothing);
    }

    @Override
    public Void visitTry(TryTree tree, Void nothing) {
        need(tree.getFinallyBlock() == null && tree.getResources().isEmpty(), 6, "no finally, no resources", tree);
        for (CatchTree one : tree.getCatches()) {
            need(EXCEPTIONS.contains(one.getParameter().getType().toString()), 6, "catches these classes", one);
        }
        return super.visitTry(tree, nothing);
    }

    @Override
    public Void visitSynchronized(SynchronizedTree tree, Void nothing) {
        fault(6, "synchronized", tree);
        return super.visitSynchronized(tree, nothing);
    }

    @Override
    public Void visitAssert(AssertTree tree, Void nothing) {
        fault(6, "assert", tree);
        return super.visitAssert(tree, nothing);
    }

    @Override
    public Void visitWhileLoop(WhileLoopTree tree, Void nothing) {
        need(!isTrue(tree.getCondition()), 9, "a loop without an end", tree);
        return super.visitWhileLoop(tree, nothing);
    }

    @Override
    public Void visitDoWhileLoop(DoWhileLoopTree tree, Void nothing) {
        need(!isTrue(tree.getCondition()), 9, "a loop without an end", tree);
        return super.visitDoWhileLoop(tree, nothing);
    }

    @Override
    public Void visitForLoop(ForLoopTree tree, Void nothing) {
        need(tree.getCondition() != null && !isTrue(tree.getCondition()), 9, "a loop without an end", tree);
        return super.visitForLoop(tree, nothing);
    }

    @Override
    public Void visitBinary(BinaryTree tree, Void nothing) {
        String left = String.valueOf(typeOf(tree.getLeftOperand()));
        String right = String.valueOf(typeOf(tree.getRightOperand()));
        boolean texts = left.endsWith("String") || right.endsWith("String");
        need(!texts || tree.getKind() != Tree.Kind.PLUS, 10, "texts are not joined by +", tree);
        boolean reals = Set.of("double", "float").contains(left) || Set.of("double", "float").contains(right);
        need(!reals || tree.getKind() != Tree.Kind.REMAINDER, 3, "no % on doubles", tree);
        return super.visitBinary(tree, nothing);
    }

    @Override
    public Void visitCompoundAssignment(CompoundAssignmentTree tree, Void nothing) {
        String type = String.valueOf(typeOf(tree.getVariable()));
        need(!type.endsWith("String"), 10, "texts are not joined by +", tree);
        return super.visitCompoundAssignment(tree, nothing);
    }

    // Rule 11: methods that call one another in a circle are recursion, and count as one.

    private void callsDeep() {
        Map<Element, Set<Element>> reached = new HashMap<>();
        for (Element one : calls.keySet()) {
            Set<Element> all = new HashSet<>();
            reach(one, all);
            reached.put(one, all);
        }
        for (Element one : calls.keySet()) {
            int deep = deep(one, reached, new HashMap<>());
            if (deep > CALLS_DEEPEST) {
                faults.add("rule 11: calls go " + deep + " deep from " + one);
            }
        }
    }

    private void reach(Element from, Set<Element> all) {
        for (Element one : calls.getOrDefault(from, Set.of())) {
            if (all.add(one)) {
                reach(one, all);
            }
        }
    }

    private static boolean inOneCircle(Element one, Element other, Map<Element, Set<Element>> reached) {
        return reached.getOrDefault(one, Set.of()).contains(other) && reached.getOrDefault(other, Set.of()).contains(one);
    }

    private int deep(Element from, Map<Element, Set<Element>> reached, Map<Element, Integer> known) {
        if (known.containsKey(from)) {
            return known.get(from);
        }
        int deepest = 0;
        for (Element member : calls.keySet()) {
            if (member == from || inOneCircle(member, from, reached)) {
                for (Element one : calls.get(member)) {
                    if (one != from && !inOneCircle(one, from, reached)) {
                        deepest = Math.max(deepest, deep(one, reached, known));
                    }
                }
            }
        }
        known.put(from, deepest + 1);
        return deepest + 1;
    }
}
