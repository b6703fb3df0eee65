import com.sun.source.tree.*;
import com.sun.source.util.JavacTask;
import com.sun.source.util.TreePath;
import com.sun.source.util.TreePathScanner;
import com.sun.source.util.Trees;
import java.io.IOException;
import java.nio.file.Path;
import java.util.HashMap;
import java.util.HashSet;
import java.util.List;
import java.util.Map;
import java.util.Set;
import javax.lang.model.element.Element;
import javax.lang.model.element.ElementKind;
import javax.lang.model.element.TypeElement;
import javax.tools.JavaCompiler;
import javax.tools.StandardJavaFileManager;
import javax.tools.ToolProvider;

/**
 * The rules of ../shared/LANGUAGE.md that need the parsed class: what it calls, how deep its calls go,
 * whether its loops have an end that can be seen, where it makes objects, and by what it divides.
 */
public final class RulesTest {
    private static final Path SOURCE = Path.of("src/main/java/ArchiveMirrors.java");
    private static final int DEEPEST = 8;
    /** Rule 4: what this class needs of the library, all of which the rule lists. */
    private static final Set<String> LIBRARY = Set.of("java.lang.Math.max", "java.lang.Math.min",
            "java.lang.Math.floorMod", "java.lang.Integer.bitCount", "java.lang.Object.<init>");
    private static final Set<String> TYPES = Set.of("int", "long", "boolean", "double", "void");
    private static final Set<Tree.Kind> LEFT_OUT = Set.of(Tree.Kind.LAMBDA_EXPRESSION, Tree.Kind.MEMBER_REFERENCE,
            Tree.Kind.WHILE_LOOP, Tree.Kind.DO_WHILE_LOOP, Tree.Kind.TRY, Tree.Kind.SYNCHRONIZED, Tree.Kind.ASSERT,
            Tree.Kind.TYPE_CAST, Tree.Kind.INSTANCE_OF, Tree.Kind.ENHANCED_FOR_LOOP);

    private final Trees trees;
    private final Map<Element, Set<Element>> calls = new HashMap<>();

    private RulesTest(Trees trees) {
        this.trees = trees;
    }

    public static void main(String[] args) throws IOException {
        JavaCompiler compiler = ToolProvider.getSystemJavaCompiler();
        try (StandardJavaFileManager files = compiler.getStandardFileManager(null, null, null)) {
            JavacTask task = (JavacTask) compiler.getTask(null, files, null, List.of("-proc:none"), null,
                    files.getJavaFileObjects(SOURCE));
            CompilationUnitTree unit = task.parse().iterator().next();
            task.analyze();
            RulesTest rules = new RulesTest(Trees.instance(task));
            rules.new Reader().scan(unit, null);
            rules.depths();
        }
        Check.end();
    }

    /** Rules 8 and 11: no call comes back to itself, and none goes too deep. */
    private void depths() {
        Map<Element, Integer> known = new HashMap<>();
        int deepest = 0;
        for (Element method : calls.keySet()) {
            deepest = Math.max(deepest, depth(method, new HashSet<>(), known));
        }
        if (deepest < 5 || deepest > DEEPEST) {
            Check.fail("rule 11: the calls go " + deepest + " deep");
        }
    }

    private int depth(Element method, Set<Element> open, Map<Element, Integer> known) {
        if (!open.add(method)) {
            Check.fail("rule 8: a call that comes back to " + method);
            return 0;
        }
        Integer before = known.get(method);
        int deepest = before == null ? 0 : before - 1;
        for (Element called : before == null ? calls.getOrDefault(method, Set.of()) : Set.<Element>of()) {
            deepest = Math.max(deepest, depth(called, open, known));
        }
        open.remove(method);
        known.put(method, deepest + 1);
        return deepest + 1;
    }

    /** Goes through the class; the path tells in which method, loop or constructor a part of it stands. */
    private final class Reader extends TreePathScanner<Void, Void> {
        @Override
        public Void scan(Tree tree, Void none) {
            if (tree != null && LEFT_OUT.contains(tree.getKind())) {
                Check.fail("not of the part of Java that this class needs: " + tree);
            }
            return super.scan(tree, none);
        }

        /** The path to the method or constructor in which this part stands, null for a field. */
        private TreePath methodAround() {
            TreePath path = getCurrentPath();
            while (path != null && !(path.getLeaf() instanceof MethodTree)) {
                path = path.getParentPath();
            }
            return path;
        }

        @Override
        public Void visitMethodInvocation(MethodInvocationTree tree, Void none) {
            called(trees.getElement(getCurrentPath()));
            return super.visitMethodInvocation(tree, none);
        }

        /** Rule 4, and the graph of the calls. */
        private void called(Element element) {
            String owner = ((TypeElement) element.getEnclosingElement()).getQualifiedName().toString();
            String name = owner + "." + element.getSimpleName();
            if (!owner.startsWith("ArchiveMirrors") && !LIBRARY.contains(name)) {
                Check.fail("rule 4: a call of " + name);
            }
            if (methodAround() != null) {
                calls.computeIfAbsent(trees.getElement(methodAround()), key -> new HashSet<>()).add(element);
            }
        }

        /** Rule 12: rows are made in constructors and in fields; all else that is made is thrown. */
        @Override
        public Void visitNewClass(NewClassTree tree, Void none) {
            boolean thrown = getCurrentPath().getParentPath().getLeaf() instanceof ThrowTree;
            if (!thrown) {
                called(trees.getElement(getCurrentPath()));
                made(tree);
            }
            if (tree.getClassBody() != null) {
                Check.fail("rule 2: an anonymous class: " + tree);
            }
            return super.visitNewClass(tree, none);
        }

        @Override
        public Void visitNewArray(NewArrayTree tree, Void none) {
            made(tree);
            for (ExpressionTree length : tree.getDimensions()) {
                Element element = trees.getElement(new TreePath(getCurrentPath(), length));
                boolean constant = element != null && element.getSimpleName().toString().startsWith("MAX_");
                if (!constant) {
                    Check.fail("rule 7: a length that is no constant: " + tree);
                }
            }
            return super.visitNewArray(tree, none);
        }

        private void made(Tree tree) {
            TreePath method = methodAround();
            if (method != null && trees.getElement(method).getKind() != ElementKind.CONSTRUCTOR) {
                Check.fail("rule 12: an object made outside of the constructors: " + tree);
            }
        }

        /** Rule 9: a counter that only the head changes, by one, and that the head compares. */
        @Override
        public Void visitForLoop(ForLoopTree tree, Void none) {
            String counter = counterOf(tree);
            boolean compared = tree.getCondition() instanceof BinaryTree condition
                    && condition.getLeftOperand().toString().equals(counter)
                    && Set.of(Tree.Kind.LESS_THAN, Tree.Kind.LESS_THAN_EQUAL).contains(condition.getKind());
            boolean counts = tree.getUpdate().size() == 1
                    && tree.getUpdate().get(0).getExpression().toString().equals(counter + "++");
            if (!compared || !counts) {
                Check.fail("rule 9: a loop whose end is not seen: " + tree);
            }
            return super.visitForLoop(tree, none);
        }

        private String counterOf(ForLoopTree loop) {
            boolean one = loop.getInitializer().size() == 1;
            return one && loop.getInitializer().get(0) instanceof VariableTree counter ? counter.getName().toString() : "";
        }

        private void changed(ExpressionTree variable) {
            Tree statement = getCurrentPath().getParentPath().getLeaf();
            for (Tree tree : getCurrentPath()) {
                boolean inside = tree instanceof ForLoopTree loop && !loop.getUpdate().contains(statement);
                if (inside && counterOf((ForLoopTree) tree).equals(variable.toString())) {
                    Check.fail("rule 9: a counter that is changed in its loop: " + statement);
                }
            }
        }

        @Override
        public Void visitAssignment(AssignmentTree tree, Void none) {
            changed(tree.getVariable());
            return super.visitAssignment(tree, none);
        }

        @Override
        public Void visitCompoundAssignment(CompoundAssignmentTree tree, Void none) {
            changed(tree.getVariable());
            Check.equal("rule 7: divisions with an assignment: " + tree, dividing(tree.getKind()) ? 1 : 0, 0);
            return super.visitCompoundAssignment(tree, none);
        }

        @Override
        public Void visitUnary(UnaryTree tree, Void none) {
            Set<Tree.Kind> changing = Set.of(Tree.Kind.POSTFIX_INCREMENT, Tree.Kind.POSTFIX_DECREMENT,
                    Tree.Kind.PREFIX_INCREMENT, Tree.Kind.PREFIX_DECREMENT);
            if (changing.contains(tree.getKind())) {
                changed(tree.getExpression());
            }
            return super.visitUnary(tree, none);
        }

        private boolean dividing(Tree.Kind kind) {
            return Set.of(Tree.Kind.DIVIDE, Tree.Kind.REMAINDER, Tree.Kind.DIVIDE_ASSIGNMENT,
                    Tree.Kind.REMAINDER_ASSIGNMENT).contains(kind);
        }

        /** Rule 7: a divisor is a written number, or the method compares it before. */
        @Override
        public Void visitBinary(BinaryTree tree, Void none) {
            String divisor = tree.getRightOperand().toString();
            if (dividing(tree.getKind()) && !divisor.matches("[1-9]\\d*") && !isComparedBefore(tree, divisor)) {
                Check.fail("rule 7: a divisor that is not looked at: " + tree);
            }
            return super.visitBinary(tree, none);
        }

        private boolean isComparedBefore(Tree part, String variable) {
            String method = methodAround() == null ? "" : methodAround().getLeaf().toString();
            String before = method.substring(0, Math.max(0, method.indexOf(part.toString())));
            return before.matches("(?s).*\\b" + variable + " (<=|==|>) 0\\b.*");
        }

        /** Rule 3: the types of fields, parameters, variables and answers. */
        @Override
        public Void visitVariable(VariableTree tree, Void none) {
            typed(tree.getType());
            return super.visitVariable(tree, none);
        }

        @Override
        public Void visitMethod(MethodTree tree, Void none) {
            if (tree.getReturnType() != null) {
                typed(tree.getReturnType());
            }
            return super.visitMethod(tree, none);
        }

        private void typed(Tree type) {
            Tree element = type instanceof ArrayTypeTree array ? array.getType() : type;
            Element known = trees.getElement(new TreePath(getCurrentPath(), element));
            boolean own = known instanceof TypeElement t && t.getQualifiedName().toString().startsWith("ArchiveMirrors");
            if (!own && !TYPES.contains(element.toString())) {
                Check.fail("rule 3: the type " + type);
            }
        }

        @Override
        public Void visitClass(ClassTree tree, Void none) {
            if (tree.getKind() != Tree.Kind.CLASS || methodAround() != null) {
                Check.fail("rule 2: " + tree.getKind() + " " + tree.getSimpleName());
            }
            return super.visitClass(tree, none);
        }
    }
}
