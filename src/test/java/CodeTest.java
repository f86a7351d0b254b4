import com.sun.source.tree.BinaryTree;
import com.sun.source.tree.CompilationUnitTree;
import com.sun.source.tree.CompoundAssignmentTree;
import com.sun.source.tree.DoWhileLoopTree;
import com.sun.source.tree.ExpressionTree;
import com.sun.source.tree.ForLoopTree;
import com.sun.source.tree.MethodInvocationTree;
import com.sun.source.tree.MethodTree;
import com.sun.source.tree.NewArrayTree;
import com.sun.source.tree.NewClassTree;
import com.sun.source.tree.ParenthesizedTree;
import com.sun.source.tree.Tree;
import com.sun.source.tree.VariableTree;
import com.sun.source.tree.WhileLoopTree;
import com.sun.source.util.JavacTask;
import com.sun.source.util.TreePathScanner;
import com.sun.source.util.Trees;
import java.io.IOException;
import java.nio.file.Path;
import java.util.ArrayList;
import java.util.LinkedHashMap;
import java.util.LinkedHashSet;
import java.util.List;
import java.util.Map;
import java.util.Set;
import javax.lang.model.element.Element;
import javax.lang.model.element.ExecutableElement;
import javax.lang.model.element.Modifier;
import javax.tools.JavaCompiler;
import javax.tools.StandardJavaFileManager;
import javax.tools.ToolProvider;

/** Those rules of LANGUAGE.md on calls, loops and what is made, looked up in LockTable.java as the compiler reads it. */
public final class CodeTest {
    private static final int DEEPEST = 8;
    private static final Set<String> LIBRARY = Set.of("System.arraycopy", "Math.max", "Object.<init>");
    private static final Set<Tree.Kind> FORBIDDEN = Set.of(Tree.Kind.THROW, Tree.Kind.TRY, Tree.Kind.CATCH,
        Tree.Kind.SYNCHRONIZED, Tree.Kind.ASSERT, Tree.Kind.LAMBDA_EXPRESSION, Tree.Kind.MEMBER_REFERENCE,
        Tree.Kind.TYPE_CAST, Tree.Kind.INSTANCE_OF);
    private static final Set<Tree.Kind> DIVISIONS = Set.of(Tree.Kind.DIVIDE, Tree.Kind.REMAINDER,
        Tree.Kind.DIVIDE_ASSIGNMENT, Tree.Kind.REMAINDER_ASSIGNMENT);
    private static final Set<Tree.Kind> BOUNDS = Set.of(Tree.Kind.LESS_THAN, Tree.Kind.LESS_THAN_EQUAL,
        Tree.Kind.GREATER_THAN, Tree.Kind.GREATER_THAN_EQUAL);

    private static int wrong = 0;

    private static void must(boolean holds, String what) {
        if (holds) return;
        wrong++;
        System.out.println("LANGUAGE: " + what);
    }

    public static void main(String[] args) throws IOException {
        JavaCompiler compiler = ToolProvider.getSystemJavaCompiler();
        Reader reader;
        try (StandardJavaFileManager files = compiler.getStandardFileManager(null, null, null)) {
            JavacTask task = (JavacTask) compiler.getTask(null, files, null, null, null,
                files.getJavaFileObjects(Path.of("src/main/java/LockTable.java")));
            List<CompilationUnitTree> units = new ArrayList<>();
            for (CompilationUnitTree unit : task.parse()) units.add(unit);
            task.analyze();
            reader = new Reader(Trees.instance(task));
            for (CompilationUnitTree unit : units) reader.scan(unit, null);
        }
        must(reader.loops > 40 && reader.calls.size() > 80, "the reader has seen too little");
        int depth = 0;
        for (Element method : reader.calls.keySet()) depth = Math.max(depth, depth(reader.calls, method, new ArrayList<>()));
        must(depth <= DEEPEST, "calls go " + depth + " deep");
        System.out.println("CodeTest: " + reader.calls.size() + " methods, " + reader.loops + " loops, calls go " + depth
            + " deep, " + wrong + " wrong");
        if (wrong != 0) System.exit(1);
    }

    /** How deep calls go from a method on, those aside that stand open already. */
    private static int depth(Map<Element, Set<Element>> calls, Element method, List<Element> open) {
        int deepest = 0;
        open.add(method);
        for (Element called : calls.get(method)) {
            if (open.contains(called)) {
                Set<Modifier> is = called.getModifiers();
                must(is.contains(Modifier.PRIVATE) && is.contains(Modifier.STATIC), "recursion of " + called);
            } else if (calls.containsKey(called)) {
                deepest = Math.max(deepest, depth(calls, called, open));
            }
        }
        open.remove(method);
        return deepest + 1;
    }

    private static final class Reader extends TreePathScanner<Void, Void> {
        final Map<Element, Set<Element>> calls = new LinkedHashMap<>();
        int loops = 0;
        private final Trees trees;
        private Element method = null;
        private boolean inConstructor = false;

        Reader(Trees trees) {
            this.trees = trees;
        }

        @Override
        public Void scan(Tree tree, Void p) {
            if (tree != null && FORBIDDEN.contains(tree.getKind()) && !isByteCast(tree)) must(false, "there is " + tree);
            return super.scan(tree, p);
        }

        private static boolean isByteCast(Tree tree) {
            return tree.toString().startsWith("(byte)");
        }

        @Override
        public Void visitMethod(MethodTree tree, Void p) {
            method = trees.getElement(getCurrentPath());
            inConstructor = tree.getReturnType() == null;
            calls.put(method, new LinkedHashSet<>());
            super.visitMethod(tree, p);
            method = null;
            return null;
        }

        @Override
        public Void visitMethodInvocation(MethodInvocationTree tree, Void p) {
            ExecutableElement called = (ExecutableElement) trees.getElement(getCurrentPath());
            String of = called.getEnclosingElement().toString();
            String name = of.replace("java.lang.", "") + "." + called.getSimpleName();
            must(of.startsWith("LockTable") || LIBRARY.contains(name), "the library's " + name);
            if (method != null) calls.get(method).add(called);
            return super.visitMethodInvocation(tree, p);
        }

        @Override
        public Void visitNewClass(NewClassTree tree, Void p) {
            must(method == null || inConstructor, "a call makes " + tree);
            return super.visitNewClass(tree, p);
        }

        @Override
        public Void visitNewArray(NewArrayTree tree, Void p) {
            must(method == null || inConstructor, "a call makes " + tree);
            return super.visitNewArray(tree, p);
        }

        @Override
        public Void visitVariable(VariableTree tree, Void p) {
            must(!Set.of("float", "double").contains(String.valueOf(tree.getType())), "there is " + tree);
            return super.visitVariable(tree, p);
        }

        @Override
        public Void visitBinary(BinaryTree tree, Void p) {
            if (DIVISIONS.contains(tree.getKind())) divisor(tree.getRightOperand());
            return super.visitBinary(tree, p);
        }

        @Override
        public Void visitCompoundAssignment(CompoundAssignmentTree tree, Void p) {
            if (DIVISIONS.contains(tree.getKind())) divisor(tree.getExpression());
            return super.visitCompoundAssignment(tree, p);
        }

        /** It is a number that stands there, or one that the method has looked at. */
        private void divisor(ExpressionTree by) {
            String around = String.valueOf(trees.getTree(method));
            boolean seen = around.contains(by + " > 0") || around.contains(by + " <= 0) return");
            must(by.getKind() == Tree.Kind.INT_LITERAL && !by.toString().equals("0") || seen, "a divisor unseen: " + by);
        }

        @Override
        public Void visitForLoop(ForLoopTree tree, Void p) {
            loop(tree.getCondition());
            return super.visitForLoop(tree, p);
        }

        @Override
        public Void visitWhileLoop(WhileLoopTree tree, Void p) {
            loop(tree.getCondition());
            return super.visitWhileLoop(tree, p);
        }

        @Override
        public Void visitDoWhileLoop(DoWhileLoopTree tree, Void p) {
            loop(tree.getCondition());
            return super.visitDoWhileLoop(tree, p);
        }

        private void loop(ExpressionTree condition) {
            loops++;
            must(hasBound(condition), "a loop without a bound: " + condition);
        }

        /** Among what must hold together there is a number against a bound. */
        private static boolean hasBound(Tree tree) {
            if (tree instanceof ParenthesizedTree) return hasBound(((ParenthesizedTree) tree).getExpression());
            if (!(tree instanceof BinaryTree)) return false;
            BinaryTree both = (BinaryTree) tree;
            if (tree.getKind() != Tree.Kind.CONDITIONAL_AND) return BOUNDS.contains(tree.getKind());
            return hasBound(both.getLeftOperand()) || hasBound(both.getRightOperand());
        }
    }
}
