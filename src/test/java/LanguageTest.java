import com.sun.source.tree.BinaryTree;
import com.sun.source.tree.BlockTree;
import com.sun.source.tree.ClassTree;
import com.sun.source.tree.CompilationUnitTree;
import com.sun.source.tree.DoWhileLoopTree;
import com.sun.source.tree.ExpressionTree;
import com.sun.source.tree.ForLoopTree;
import com.sun.source.tree.ImportTree;
import com.sun.source.tree.MethodInvocationTree;
import com.sun.source.tree.MethodTree;
import com.sun.source.tree.NewArrayTree;
import com.sun.source.tree.NewClassTree;
import com.sun.source.tree.Tree;
import com.sun.source.tree.TypeCastTree;
import com.sun.source.tree.VariableTree;
import com.sun.source.tree.WhileLoopTree;
import com.sun.source.util.JavacTask;
import com.sun.source.util.SourcePositions;
import com.sun.source.util.TreePath;
import com.sun.source.util.TreePathScanner;
import com.sun.source.util.Trees;
import java.io.File;
import java.io.IOException;
import java.util.ArrayDeque;
import java.util.Deque;
import java.util.HashMap;
import java.util.HashSet;
import java.util.Map;
import java.util.Set;
import javax.lang.model.element.Element;
import javax.lang.model.element.Modifier;
import javax.tools.JavaCompiler;
import javax.tools.StandardJavaFileManager;
import javax.tools.ToolProvider;

/** The rules of LANGUAGE.md, as far as they can be seen in the text of the class. */
public final class LanguageTest {
    private static final Check CHECK = new Check("LanguageTest");
    private static final File SOURCE = new File("src/main/java/IntraPicture.java");
    // Of what rule 4 lists, this is used: all of it makes nothing and throws nothing.
    private static final Set<String> LIBRARY = Set.of("java.lang.Math.max", "java.lang.Math.min", "java.lang.Math.abs",
        "java.lang.Integer.compare", "java.lang.System.arraycopy", "java.util.Arrays.fill");
    private static final Set<String> TYPES = Set.of("int", "long", "boolean", "int[]");
    private static final Map<Tree.Kind, String> UNUSED = Map.of(
        Tree.Kind.LAMBDA_EXPRESSION, "rule 2: no lambda", Tree.Kind.MEMBER_REFERENCE, "rule 2: no method reference",
        Tree.Kind.THROW, "rule 6: the document has no call that throws", Tree.Kind.TRY, "rule 6: nothing is there to catch",
        Tree.Kind.SYNCHRONIZED, "rule 6: no synchronized", Tree.Kind.ASSERT, "rule 6: no assert",
        Tree.Kind.INSTANCE_OF, "rule 6: no instanceof is needed");
    private static final int MOST_LINES = 60;
    private static final int MOST_PARAMETERS = 7;
    private static final int MOST_CLASSES = 12;
    private static final int MOST_FIELDS = 20;
    private static final int MOST_CALLS_OPEN = 8;

    public static void main(String[] args) throws IOException {
        JavaCompiler compiler = ToolProvider.getSystemJavaCompiler();
        try (StandardJavaFileManager files = compiler.getStandardFileManager(null, null, null)) {
            JavacTask task = (JavacTask) compiler.getTask(null, files, null, null, null, files.getJavaFileObjects(SOURCE));
            CompilationUnitTree unit = task.parse().iterator().next();
            task.analyze();
            CHECK.due("rule 1: no package line", unit.getPackageName() == null, true);
            Reader reader = new Reader(unit, Trees.instance(task));
            reader.scan(unit, null);
            CHECK.due("rule 11: classes", reader.classes.size() <= MOST_CLASSES, true);
            reader.callsGoDownOnly();
        }
        CHECK.end();
    }

    /** Goes through the class and asks of each part whether it keeps to the rules. */
    private static final class Reader extends TreePathScanner<Void, Void> {
        private final CompilationUnitTree unit;
        private final Trees trees;
        private final Set<String> classes = new HashSet<>();
        private final Map<Element, Set<Element>> calls = new HashMap<>();
        private final Deque<Element> methods = new ArrayDeque<>();

        Reader(CompilationUnitTree unit, Trees trees) {
            this.unit = unit;
            this.trees = trees;
        }

        @Override
        public Void scan(Tree tree, Void p) {
            if (tree != null && UNUSED.containsKey(tree.getKind())) {
                holds(UNUSED.get(tree.getKind()), tree, false);
            }
            return super.scan(tree, p);
        }

        private long line(long position) {
            return unit.getLineMap().getLineNumber(position);
        }

        private void holds(String rule, Tree at, boolean holds) {
            CHECK.due("line " + line(trees.getSourcePositions().getStartPosition(unit, at)) + ", " + rule, holds, true);
        }

        @Override
        public Void visitImport(ImportTree node, Void p) {
            holds("rule 4: import", node, node.getQualifiedIdentifier().toString().equals("java.util.Arrays"));
            return null;
        }

        @Override
        public Void visitClass(ClassTree node, Void p) {
            classes.add(node.getSimpleName().toString());
            boolean inside = getCurrentPath().getParentPath().getLeaf() instanceof ClassTree;
            Set<Modifier> modifiers = node.getModifiers().getFlags();
            holds("rules 1 and 2: a class inside is static and not public", node,
                !inside || modifiers.contains(Modifier.STATIC) && !modifiers.contains(Modifier.PUBLIC));
            holds("rule 2: no class stands in a method", node, methods.isEmpty());
            int fields = 0;
            for (Tree member : node.getMembers()) {
                fields += member instanceof VariableTree && !isStatic((VariableTree) member) ? 1 : 0;
                holds("rule 5: no initialiser block", member, !(member instanceof BlockTree));
            }
            holds("rule 11: fields", node, fields <= MOST_FIELDS);
            return super.visitClass(node, p);
        }

        private static boolean isStatic(VariableTree variable) {
            return variable.getModifiers().getFlags().contains(Modifier.STATIC);
        }

        @Override
        public Void visitVariable(VariableTree node, Void p) {
            String type = node.getType().toString();
            holds("rule 3: type " + type, node, TYPES.contains(type) || isOwn(new TreePath(getCurrentPath(), node.getType())));
            if (isStatic(node)) {
                holds("rule 5: static fields are final", node, node.getModifiers().getFlags().contains(Modifier.FINAL));
                boolean written = node.getInitializer() instanceof NewArrayTree
                    && ((NewArrayTree) node.getInitializer()).getInitializers() != null;
                boolean number = type.equals("int");
                holds("rule 5: constants are numbers or written out", node, number || type.equals("int[]") && written);
            }
            return super.visitVariable(node, p);
        }

        private boolean isOwn(TreePath type) {
            return isOwn(trees.getElement(type));
        }

        private static boolean isOwn(Element element) {
            Element outermost = element;
            while (outermost != null && outermost.getEnclosingElement() != null
                && !outermost.getEnclosingElement().getKind().name().equals("PACKAGE")) {
                outermost = outermost.getEnclosingElement();
            }
            return outermost != null && outermost.toString().equals("IntraPicture");
        }

        @Override
        public Void visitMethod(MethodTree node, Void p) {
            SourcePositions positions = trees.getSourcePositions();
            // Constructors that are not written have no end.
            long end = positions.getEndPosition(unit, node);
            long lines = end < 0 ? 0 : line(end) - line(positions.getStartPosition(unit, node)) + 1;
            holds("rule 11: lines of " + node.getName(), node, lines <= MOST_LINES);
            holds("rule 11: parameters of " + node.getName(), node, node.getParameters().size() <= MOST_PARAMETERS);
            holds("rule 6: no throws", node, node.getThrows().isEmpty());
            Element method = trees.getElement(getCurrentPath());
            calls.putIfAbsent(method, new HashSet<>());
            methods.push(method);
            super.visitMethod(node, p);
            methods.pop();
            return null;
        }

        @Override
        public Void visitMethodInvocation(MethodInvocationTree node, Void p) {
            Element called = trees.getElement(getCurrentPath());
            if (isOwn(called)) {
                calls.get(methods.peek()).add(called);
            } else if (!node.getMethodSelect().toString().equals("super")) {
                String name = called.getEnclosingElement() + "." + called.getSimpleName();
                holds("rule 4: call of " + name, node, LIBRARY.contains(name));
            }
            return super.visitMethodInvocation(node, p);
        }

        @Override
        public Void visitNewClass(NewClassTree node, Void p) {
            madeInAConstructor(node);
            holds("rule 2: no anonymous class", node, node.getClassBody() == null);
            holds("rule 4: only own objects", node, isOwn(trees.getElement(getCurrentPath())));
            Element made = trees.getElement(getCurrentPath());
            if (!methods.isEmpty()) {
                calls.get(methods.peek()).add(made);
            }
            return super.visitNewClass(node, p);
        }

        @Override
        public Void visitNewArray(NewArrayTree node, Void p) {
            madeInAConstructor(node);
            return super.visitNewArray(node, p);
        }

        // Rule 12 allows more, but all calls of a run live in one room: so no call but a constructor makes anything.
        private void madeInAConstructor(Tree node) {
            holds("rule 12: made in a constructor", node,
                methods.isEmpty() || methods.peek().getSimpleName().contentEquals("<init>"));
        }

        private boolean compares(ExpressionTree condition) {
            boolean[] found = {false};
            new TreePathScanner<Void, Void>() {
                @Override
                public Void visitBinary(BinaryTree node, Void p) {
                    Tree.Kind kind = node.getKind();
                    found[0] |= kind == Tree.Kind.LESS_THAN || kind == Tree.Kind.LESS_THAN_EQUAL
                        || kind == Tree.Kind.GREATER_THAN || kind == Tree.Kind.GREATER_THAN_EQUAL;
                    return super.visitBinary(node, p);
                }
            }.scan(new TreePath(getCurrentPath(), condition), null);
            return found[0];
        }

        @Override
        public Void visitForLoop(ForLoopTree node, Void p) {
            holds("rule 9: a bound", node, node.getCondition() != null && compares(node.getCondition()));
            holds("rule 9: a counter", node, node.getInitializer().size() == 1 && node.getUpdate().size() == 1);
            return super.visitForLoop(node, p);
        }

        @Override
        public Void visitWhileLoop(WhileLoopTree node, Void p) {
            holds("rule 9: a bound", node, compares(node.getCondition()));
            return super.visitWhileLoop(node, p);
        }

        @Override
        public Void visitDoWhileLoop(DoWhileLoopTree node, Void p) {
            holds("rule 9: a bound", node, compares(node.getCondition()));
            return super.visitDoWhileLoop(node, p);
        }

        @Override
        public Void visitTypeCast(TypeCastTree node, Void p) {
            holds("rule 6: casts of numbers alone", node, node.getType().toString().equals("int"));
            return super.visitTypeCast(node, p);
        }

        /** No method calls itself, be it by others; and few calls stand open at once. */
        void callsGoDownOnly() {
            for (Element method : calls.keySet()) {
                int depth = depth(method, new HashSet<>());
                CHECK.due("rules 8 and 11: few calls open behind " + method, depth <= MOST_CALLS_OPEN, true);
            }
        }

        private int depth(Element method, Set<Element> open) {
            if (!open.add(method)) {
                return MOST_CALLS_OPEN + 1;
            }
            int deepest = 0;
            for (Element called : calls.getOrDefault(method, Set.of())) {
                deepest = Math.max(deepest, depth(called, open));
            }
            open.remove(method);
            return 1 + deepest;
        }
    }
}
