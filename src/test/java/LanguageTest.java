import com.sun.source.tree.AssertTree;
import com.sun.source.tree.AssignmentTree;
import com.sun.source.tree.BinaryTree;
import com.sun.source.tree.ClassTree;
import com.sun.source.tree.CompilationUnitTree;
import com.sun.source.tree.CompoundAssignmentTree;
import com.sun.source.tree.DoWhileLoopTree;
import com.sun.source.tree.ExpressionTree;
import com.sun.source.tree.ForLoopTree;
import com.sun.source.tree.IdentifierTree;
import com.sun.source.tree.ImportTree;
import com.sun.source.tree.LambdaExpressionTree;
import com.sun.source.tree.LiteralTree;
import com.sun.source.tree.MemberReferenceTree;
import com.sun.source.tree.MemberSelectTree;
import com.sun.source.tree.MethodInvocationTree;
import com.sun.source.tree.MethodTree;
import com.sun.source.tree.NewArrayTree;
import com.sun.source.tree.NewClassTree;
import com.sun.source.tree.ParenthesizedTree;
import com.sun.source.tree.SynchronizedTree;
import com.sun.source.tree.ThrowTree;
import com.sun.source.tree.Tree;
import com.sun.source.tree.TryTree;
import com.sun.source.tree.UnaryTree;
import com.sun.source.tree.WhileLoopTree;
import com.sun.source.util.JavacTask;
import com.sun.source.util.TreePath;
import com.sun.source.util.TreePathScanner;
import com.sun.source.util.Trees;
import java.io.File;
import java.io.IOException;
import java.util.ArrayList;
import java.util.HashMap;
import java.util.HashSet;
import java.util.List;
import java.util.Map;
import java.util.Set;
import javax.lang.model.element.Element;
import javax.lang.model.element.ExecutableElement;
import javax.tools.JavaCompiler;
import javax.tools.StandardJavaFileManager;
import javax.tools.ToolProvider;

/** LANGUAGE.md: the rules that can be read off the class's source, and that calls make no objects. */
public final class LanguageTest {
    private static final String SOURCE = "src/main/java/RingWeaves.java";
    private static final Set<String> IMPORTS = Set.of("java.util.Arrays", "java.util.NoSuchElementException");
    private static final Set<String> LIBRARY = Set.of("java.util.Arrays.fill", "java.lang.Math.min",
        "java.lang.Long.bitCount");
    private static final Set<String> THROWN = Set.of("NoSuchElementException");

    private static final Set<Tree.Kind> COMPARISONS = Set.of(Tree.Kind.LESS_THAN, Tree.Kind.LESS_THAN_EQUAL,
        Tree.Kind.GREATER_THAN, Tree.Kind.GREATER_THAN_EQUAL);

    private static final Set<Tree.Kind> STEPS = Set.of(Tree.Kind.PREFIX_INCREMENT, Tree.Kind.PREFIX_DECREMENT,
        Tree.Kind.POSTFIX_INCREMENT, Tree.Kind.POSTFIX_DECREMENT);

    private static final int METHOD_LINES_MOST = 60;
    private static final int PARAMETERS_MOST = 7;
    private static final int CALLS_DEEP_MOST = 8;
    private static final int CLASSES_MOST = 12;

    private static final Checks CHECKS = new Checks();

    public static void main(String[] args) throws IOException {
        JavaCompiler compiler = ToolProvider.getSystemJavaCompiler();
        StandardJavaFileManager files = compiler.getStandardFileManager(null, null, null);
        JavacTask task = (JavacTask) compiler.getTask(null, files, null, List.of("-proc:none"), null,
            files.getJavaFileObjects(new File(SOURCE)));
        List<CompilationUnitTree> units = new ArrayList<>();
        for (CompilationUnitTree unit : task.parse()) {
            units.add(unit);
        }
        task.analyze();
        for (CompilationUnitTree unit : units) {
            CHECKS.due("a package line", unit.getPackageName() != null, false);
            Source source = new Source(Trees.instance(task), unit);
            source.scan(unit, null);
            source.finish();
        }
        CHECKS.finish();
    }

    private record Loop(TreePath condition, TreePath body) { }

    /** Of a part of the source: the variables it uses and those it changes, and what it calls. */
    private static final class Touched extends TreePathScanner<Void, Void> {
        private final Trees trees;
        private final Set<Element> used = new HashSet<>();
        private final Set<Element> changed = new HashSet<>();
        private final Set<Element> called = new HashSet<>();

        Touched(Trees trees) {
            this.trees = trees;
        }

        private void change(Tree variable) {
            changed.add(trees.getElement(new TreePath(getCurrentPath(), variable)));
        }

        @Override
        public Void visitIdentifier(IdentifierTree tree, Void nothing) {
            used.add(trees.getElement(getCurrentPath()));
            return super.visitIdentifier(tree, nothing);
        }

        @Override
        public Void visitMemberSelect(MemberSelectTree tree, Void nothing) {
            used.add(trees.getElement(getCurrentPath()));
            return super.visitMemberSelect(tree, nothing);
        }

        @Override
        public Void visitAssignment(AssignmentTree tree, Void nothing) {
            change(tree.getVariable());
            return super.visitAssignment(tree, nothing);
        }

        @Override
        public Void visitCompoundAssignment(CompoundAssignmentTree tree, Void nothing) {
            change(tree.getVariable());
            return super.visitCompoundAssignment(tree, nothing);
        }

        @Override
        public Void visitUnary(UnaryTree tree, Void nothing) {
            if (STEPS.contains(tree.getKind())) {
                change(tree.getExpression());
            }
            return super.visitUnary(tree, nothing);
        }

        @Override
        public Void visitMethodInvocation(MethodInvocationTree tree, Void nothing) {
            called.add(trees.getElement(getCurrentPath()));
            return super.visitMethodInvocation(tree, nothing);
        }
    }

    private static final class Source extends TreePathScanner<Void, Void> {
        private final Trees trees;
        private final CompilationUnitTree unit;
        private final Map<Element, Set<Element>> calls = new HashMap<>();
        private final Map<Element, Integer> depths = new HashMap<>();
        private final Set<Element> open = new HashSet<>();
        private final Map<Element, Touched> methods = new HashMap<>();
        private final List<Loop> loops = new ArrayList<>();
        private MethodTree method;
        private Element methodElement;
        private int classes;

        Source(Trees trees, CompilationUnitTree unit) {
            this.trees = trees;
            this.unit = unit;
        }

        void finish() {
            CHECKS.due("classes of the file " + classes, classes <= CLASSES_MOST, true);
            for (Loop loop : loops) {
                CHECKS.due("a loop whose bound stays" + here(loop.body.getLeaf()), hasBound(loop), true);
            }
            for (Element caller : new ArrayList<>(calls.keySet())) {
                int deep = depth(caller);
                CHECKS.due("calls deep from " + caller + ", " + deep, deep <= CALLS_DEEP_MOST, true);
            }
        }

        /** Calls that stand open at once, at most, from this one on. */
        private int depth(Element caller) {
            if (depths.containsKey(caller)) {
                return depths.get(caller);
            }
            CHECKS.due(caller + " calls itself", open.contains(caller), false);
            if (!open.add(caller)) {
                return 1;
            }
            int below = 0;
            for (Element called : calls.getOrDefault(caller, Set.of())) {
                below = Math.max(below, depth(called));
            }
            open.remove(caller);
            depths.put(caller, below + 1);
            return below + 1;
        }

        private Touched touched(TreePath path) {
            Touched touched = new Touched(trees);
            touched.scan(path, null);
            return touched;
        }

        /** One of the comparisons that must hold is against what nothing within the loop changes. */
        private boolean hasBound(Loop loop) {
            Set<Element> changed = new HashSet<>();
            addChanged(touched(loop.body), changed, new HashSet<>());
            for (TreePath bound : bounds(loop.condition)) {
                Touched inBound = touched(bound);
                if (inBound.called.isEmpty() && disjoint(inBound.used, changed)) {
                    return true;
                }
            }
            return false;
        }

        private void addChanged(Touched touched, Set<Element> changed, Set<Element> seen) {
            changed.addAll(touched.changed);
            for (Element called : touched.called) {
                if (methods.containsKey(called) && seen.add(called)) {
                    addChanged(methods.get(called), changed, seen);
                }
            }
        }

        private static boolean disjoint(Set<Element> some, Set<Element> others) {
            return some.stream().noneMatch(others::contains);
        }

        /** The right sides of the comparisons by size that all must hold. */
        private List<TreePath> bounds(TreePath condition) {
            List<TreePath> bounds = new ArrayList<>();
            Tree leaf = condition.getLeaf();
            if (leaf instanceof ParenthesizedTree) {
                return bounds(new TreePath(condition, ((ParenthesizedTree) leaf).getExpression()));
            }
            if (leaf.getKind() == Tree.Kind.CONDITIONAL_AND) {
                bounds.addAll(bounds(new TreePath(condition, ((BinaryTree) leaf).getLeftOperand())));
                bounds.addAll(bounds(new TreePath(condition, ((BinaryTree) leaf).getRightOperand())));
            } else if (COMPARISONS.contains(leaf.getKind())) {
                bounds.add(new TreePath(condition, ((BinaryTree) leaf).getRightOperand()));
            }
            return bounds;
        }

        private void keepLoop(ExpressionTree condition, Tree body) {
            if (condition != null) {
                loops.add(new Loop(new TreePath(getCurrentPath(), condition), new TreePath(getCurrentPath(), body)));
            }
        }

        private String here(Tree tree) {
            return " in line " + line(trees.getSourcePositions().getStartPosition(unit, tree));
        }

        private long line(long position) {
            return unit.getLineMap().getLineNumber(position);
        }

        private void none(String what, Tree tree) {
            CHECKS.due(what + here(tree), 1, 0);
        }

        @Override
        public Void visitImport(ImportTree tree, Void nothing) {
            String name = tree.getQualifiedIdentifier().toString();
            CHECKS.due("import " + name + " may stand", IMPORTS.contains(name), true);
            return super.visitImport(tree, nothing);
        }

        @Override
        public Void visitClass(ClassTree tree, Void nothing) {
            classes++;
            for (Tree member : tree.getMembers()) {
                CHECKS.due("a block of its own" + here(member), member.getKind() == Tree.Kind.BLOCK, false);
            }
            return super.visitClass(tree, nothing);
        }

        @Override
        public Void visitMethod(MethodTree tree, Void nothing) {
            method = tree;
            methodElement = trees.getElement(getCurrentPath());
            calls.putIfAbsent(methodElement, new HashSet<>());
            methods.put(methodElement, touched(getCurrentPath()));
            long first = line(trees.getSourcePositions().getStartPosition(unit, tree));
            long last = line(trees.getSourcePositions().getEndPosition(unit, tree));
            CHECKS.due("a short method" + here(tree), last - first < METHOD_LINES_MOST, true);
            CHECKS.due("few parameters" + here(tree), tree.getParameters().size() <= PARAMETERS_MOST, true);
            return super.visitMethod(tree, nothing);
        }

        @Override
        public Void visitMethodInvocation(MethodInvocationTree tree, Void nothing) {
            Element called = trees.getElement(getCurrentPath());
            if (called instanceof ExecutableElement) {
                String owner = called.getEnclosingElement().toString();
                if (owner.equals("RingWeaves") || owner.startsWith("RingWeaves.")) {
                    calls.computeIfAbsent(methodElement, key -> new HashSet<>()).add(called);
                } else if (!called.getSimpleName().contentEquals("<init>")) {
                    String name = owner + "." + called.getSimpleName();
                    CHECKS.due(name + " may be called" + here(tree), LIBRARY.contains(name), true);
                }
            }
            return super.visitMethodInvocation(tree, nothing);
        }

        private boolean inConstructor() {
            return method != null && method.getName().contentEquals("<init>");
        }

        @Override
        public Void visitNewClass(NewClassTree tree, Void nothing) {
            boolean thrown = getCurrentPath().getParentPath().getLeaf() instanceof ThrowTree;
            CHECKS.due("an object made outside constructors" + here(tree), inConstructor() || thrown, true);
            CHECKS.due("an anonymous class" + here(tree), tree.getClassBody() != null, false);
            return super.visitNewClass(tree, nothing);
        }

        @Override
        public Void visitNewArray(NewArrayTree tree, Void nothing) {
            boolean writtenOut = method == null && tree.getInitializers() != null;
            CHECKS.due("an array made outside constructors" + here(tree), inConstructor() || writtenOut, true);
            return super.visitNewArray(tree, nothing);
        }

        @Override
        public Void visitThrow(ThrowTree tree, Void nothing) {
            CHECKS.due("a throw in a constructor" + here(tree), inConstructor(), false);
            boolean known = tree.getExpression() instanceof NewClassTree
                && THROWN.contains(((NewClassTree) tree.getExpression()).getIdentifier().toString());
            CHECKS.due("a known exception" + here(tree), known, true);
            return super.visitThrow(tree, nothing);
        }

        @Override
        public Void visitLiteral(LiteralTree tree, Void nothing) {
            if (tree.getValue() instanceof String) {
                boolean plain = ((String) tree.getValue()).chars().allMatch(sign -> sign >= 1 && sign <= 127);
                CHECKS.due("a text of signs 1 to 127" + here(tree), plain, true);
            }
            return super.visitLiteral(tree, nothing);
        }

        @Override
        public Void visitForLoop(ForLoopTree tree, Void nothing) {
            CHECKS.due("a for with an end" + here(tree), tree.getCondition() != null, true);
            CHECKS.due("a for that steps" + here(tree), tree.getUpdate().size(), 1);
            keepLoop(tree.getCondition(), tree.getStatement());
            return super.visitForLoop(tree, nothing);
        }

        @Override
        public Void visitWhileLoop(WhileLoopTree tree, Void nothing) {
            keepLoop(tree.getCondition(), tree.getStatement());
            return super.visitWhileLoop(tree, nothing);
        }

        @Override
        public Void visitDoWhileLoop(DoWhileLoopTree tree, Void nothing) {
            none("a do loop", tree);
            return null;
        }

        @Override
        public Void visitTry(TryTree tree, Void nothing) {
            none("a try", tree);
            return null;
        }

        @Override
        public Void visitLambdaExpression(LambdaExpressionTree tree, Void nothing) {
            none("a lambda", tree);
            return null;
        }

        @Override
        public Void visitMemberReference(MemberReferenceTree tree, Void nothing) {
            none("a method reference", tree);
            return null;
        }

        @Override
        public Void visitSynchronized(SynchronizedTree tree, Void nothing) {
            none("synchronized", tree);
            return null;
        }

        @Override
        public Void visitAssert(AssertTree tree, Void nothing) {
            none("assert", tree);
            return null;
        }
    }
}
