import com.sun.source.tree.AssertTree;
import com.sun.source.tree.BinaryTree;
import com.sun.source.tree.ClassTree;
import com.sun.source.tree.CompilationUnitTree;
import com.sun.source.tree.CompoundAssignmentTree;
import com.sun.source.tree.ExpressionTree;
import com.sun.source.tree.ForLoopTree;
import com.sun.source.tree.LambdaExpressionTree;
import com.sun.source.tree.LiteralTree;
import com.sun.source.tree.MemberReferenceTree;
import com.sun.source.tree.MethodInvocationTree;
import com.sun.source.tree.MethodTree;
import com.sun.source.tree.NewArrayTree;
import com.sun.source.tree.NewClassTree;
import com.sun.source.tree.SynchronizedTree;
import com.sun.source.tree.ThrowTree;
import com.sun.source.tree.Tree;
import com.sun.source.tree.TryTree;
import com.sun.source.tree.VariableTree;
import com.sun.source.tree.WhileLoopTree;
import com.sun.source.util.JavacTask;
import com.sun.source.util.TreePath;
import com.sun.source.util.TreePathScanner;
import com.sun.source.util.Trees;
import java.io.File;
import java.io.IOException;
import java.io.UncheckedIOException;
import java.util.ArrayList;
import java.util.HashSet;
import java.util.List;
import java.util.Map;
import java.util.Set;
import java.util.TreeMap;
import java.util.TreeSet;
import javax.lang.model.element.Element;
import javax.lang.model.element.Modifier;
import javax.tools.JavaCompiler;
import javax.tools.StandardJavaFileManager;
import javax.tools.ToolProvider;

/** The program keeps to the rules of LANGUAGE.md that can be told from its text. */
public final class FormTest extends Check {
    private static final File PROGRAM = new File("src/main/java/ProofWorkbench.java");
    private static final int MOST_LINES = 60;
    private static final int MOST_PARAMETERS = 7;
    private static final int MOST_CLASSES = 12;
    private static final int MOST_FIELDS = 20;
    private static final int MOST_DEEP = 8;

    private static final Set<String> EXCEPTIONS = Set.of("IllegalStateException", "IllegalArgumentException",
            "IndexOutOfBoundsException", "ArithmeticException", "UnsupportedOperationException",
            "NoSuchElementException", "RuntimeException");
    private static final Set<String> LIBRARY = Set.of("String.length", "String.charAt", "String.indexOf",
            "Math.max", "Math.min", "System.arraycopy", "Object.<init>");
    private static final Set<String> SIMPLE_TYPES = Set.of("int", "long", "short", "byte", "char", "boolean", "String");
    private static final Set<String> CONSTANT_TYPES = Set.of("int", "long", "boolean", "char", "String",
            "int[]", "long[]", "char[]", "byte[]");

    private static final Form form = new Form();

    /** Goes through the program once, and keeps what is against a rule by the rule's number. */
    private static final class Form extends TreePathScanner<Void, Void> {
        private final Map<Integer, List<String>> against = new TreeMap<>();
        private final Map<String, Set<String>> calls = new TreeMap<>();
        private final Map<String, MethodTree> methods = new TreeMap<>();
        private final Set<String> classes = new TreeSet<>();
        private CompilationUnitTree unit;
        private Trees trees;

        void read(File file) {
            JavaCompiler compiler = ToolProvider.getSystemJavaCompiler();
            try (StandardJavaFileManager files = compiler.getStandardFileManager(null, null, null)) {
                JavacTask task = (JavacTask) compiler.getTask(null, files, null, List.of("-proc:none"), null,
                        files.getJavaFileObjects(file));
                unit = task.parse().iterator().next();
                task.analyze();
                trees = Trees.instance(task);
                collectClasses(unit.getTypeDecls());
                scan(unit, null);
            } catch (IOException e) {
                throw new UncheckedIOException(e);
            }
        }

        private void collectClasses(List<? extends Tree> members) {
            for (Tree member : members) {
                if (member instanceof ClassTree own) {
                    classes.add(own.getSimpleName().toString());
                    collectClasses(own.getMembers());
                }
            }
        }

        private void refuse(int rule, String what, Tree where) {
            long line = unit.getLineMap().getLineNumber(startOf(where));
            against.computeIfAbsent(rule, r -> new ArrayList<>()).add("line " + line + ": " + what);
        }

        private long startOf(Tree tree) {
            return trees.getSourcePositions().getStartPosition(unit, tree);
        }

        private boolean isText(Tree tree) {
            return "java.lang.String".equals(String.valueOf(trees.getTypeMirror(new TreePath(getCurrentPath(), tree))));
        }

        private MethodTree methodAround() {
            for (TreePath path = getCurrentPath(); path != null; path = path.getParentPath()) {
                if (path.getLeaf() instanceof MethodTree method) {
                    return method;
                }
            }
            return null;
        }

        private static boolean isConstructor(MethodTree method) {
            return method != null && method.getReturnType() == null;
        }

        private String nameOf(Element element) {
            return element.getEnclosingElement().getSimpleName() + "." + element.getSimpleName();
        }

        @Override
        public Void visitCompilationUnit(CompilationUnitTree tree, Void none) {
            if (tree.getPackage() != null || !tree.getImports().isEmpty()) {
                refuse(4, "a package line or an import", tree);
            }
            return super.visitCompilationUnit(tree, none);
        }

        @Override
        public Void visitClass(ClassTree tree, Void none) {
            long fields = tree.getMembers().stream()
                    .filter(m -> m instanceof VariableTree v && !v.getModifiers().getFlags().contains(Modifier.STATIC))
                    .count();
            if (fields > MOST_FIELDS) {
                refuse(11, fields + " fields", tree);
            }
            boolean outside = getCurrentPath().getParentPath().getLeaf() == unit;
            if (!outside && !tree.getModifiers().getFlags().contains(Modifier.STATIC)) {
                refuse(2, "a class that is not static", tree);
            }
            return super.visitClass(tree, none);
        }

        @Override
        public Void visitMethod(MethodTree tree, Void none) {
            methods.put(nameOf(trees.getElement(getCurrentPath())), tree);
            if (tree.getParameters().size() > MOST_PARAMETERS) {
                refuse(11, tree.getName() + " takes too many parameters", tree);
            }
            long end = trees.getSourcePositions().getEndPosition(unit, tree);
            if (end >= 0 && linesBetween(startOf(tree), end) > MOST_LINES) {
                refuse(11, tree.getName() + " is too long", tree);
            }
            return super.visitMethod(tree, none);
        }

        private long linesBetween(long start, long end) {
            return unit.getLineMap().getLineNumber(end) - unit.getLineMap().getLineNumber(start) + 1;
        }

        @Override
        public Void visitVariable(VariableTree tree, Void none) {
            String type = tree.getType().toString();
            String simple = type.endsWith("[]") ? type.substring(0, type.length() - 2) : type;
            if (!SIMPLE_TYPES.contains(simple) && !classes.contains(simple)) {
                refuse(3, "the type " + type, tree);
            }
            Set<Modifier> flags = tree.getModifiers().getFlags();
            boolean constant = flags.contains(Modifier.FINAL) && CONSTANT_TYPES.contains(type);
            if (flags.contains(Modifier.STATIC) && !constant) {
                refuse(5, "static state " + tree.getName(), tree);
            }
            return super.visitVariable(tree, none);
        }

        @Override
        public Void visitThrow(ThrowTree tree, Void none) {
            boolean plain = tree.getExpression() instanceof NewClassTree made
                    && EXCEPTIONS.contains(made.getIdentifier().toString())
                    && made.getArguments().stream().allMatch(a -> a instanceof LiteralTree);
            if (!plain || isConstructor(methodAround())) {
                refuse(6, "a throw", tree);
            }
            return super.visitThrow(tree, none);
        }

        @Override
        public Void visitNewClass(NewClassTree tree, Void none) {
            MethodTree method = methodAround();
            boolean thrown = getCurrentPath().getParentPath().getLeaf() instanceof ThrowTree;
            if (method != null && !isConstructor(method) && !thrown) {
                refuse(12, "an object made by " + method.getName(), tree);
            }
            return super.visitNewClass(tree, none);
        }

        @Override
        public Void visitNewArray(NewArrayTree tree, Void none) {
            if (methodAround() != null) {
                refuse(12, "an array made by " + methodAround().getName(), tree);
            }
            return super.visitNewArray(tree, none);
        }

        @Override
        public Void visitMethodInvocation(MethodInvocationTree tree, Void none) {
            Element called = trees.getElement(getCurrentPath());
            boolean own = classes.contains(called.getEnclosingElement().getSimpleName().toString());
            if (!own && !LIBRARY.contains(nameOf(called))) {
                refuse(4, "the library's " + nameOf(called), tree);
            }
            MethodTree method = methodAround();
            if (method != null) {
                Element caller = trees.getElement(trees.getPath(unit, method));
                calls.computeIfAbsent(nameOf(caller), c -> new TreeSet<>()).add(nameOf(called));
            }
            return super.visitMethodInvocation(tree, none);
        }

        @Override
        public Void visitBinary(BinaryTree tree, Void none) {
            boolean texts = isText(tree.getLeftOperand()) || isText(tree.getRightOperand());
            if (texts && tree.getKind() == Tree.Kind.PLUS) {
                refuse(10, "texts joined by +", tree);
            } else if (texts) {
                refuse(6, "texts compared by " + tree.getKind(), tree);
            }
            return super.visitBinary(tree, none);
        }

        @Override
        public Void visitCompoundAssignment(CompoundAssignmentTree tree, Void none) {
            if (isText(tree.getVariable())) {
                refuse(10, "texts joined by +=", tree);
            }
            return super.visitCompoundAssignment(tree, none);
        }

        @Override
        public Void visitForLoop(ForLoopTree tree, Void none) {
            if (tree.getCondition() == null) {
                refuse(9, "a loop without an end", tree);
            }
            return super.visitForLoop(tree, none);
        }

        @Override
        public Void visitWhileLoop(WhileLoopTree tree, Void none) {
            if (isAlways(tree.getCondition())) {
                refuse(9, "a loop without an end", tree);
            }
            return super.visitWhileLoop(tree, none);
        }

        private static boolean isAlways(ExpressionTree condition) {
            return condition.toString().equals("(true)");
        }

        @Override
        public Void visitLambdaExpression(LambdaExpressionTree tree, Void none) {
            refuse(2, "a lambda", tree);
            return super.visitLambdaExpression(tree, none);
        }

        @Override
        public Void visitMemberReference(MemberReferenceTree tree, Void none) {
            refuse(2, "a method reference", tree);
            return super.visitMemberReference(tree, none);
        }

        /** The rules allow some, but the program needs none. */
        @Override
        public Void visitTry(TryTree tree, Void none) {
            refuse(6, "a try", tree);
            return super.visitTry(tree, none);
        }

        @Override
        public Void visitAssert(AssertTree tree, Void none) {
            refuse(6, "an assert", tree);
            return super.visitAssert(tree, none);
        }

        @Override
        public Void visitSynchronized(SynchronizedTree tree, Void none) {
            refuse(6, "synchronized", tree);
            return super.visitSynchronized(tree, none);
        }

        /** The longest row of calls from this one on in which no method comes twice. */
        int deepest(String name, Set<String> open) {
            if (!open.add(name)) {
                return 0;
            }
            int most = 0;
            for (String next : calls.getOrDefault(name, Set.of())) {
                most = Math.max(most, deepest(next, open));
            }
            open.remove(name);
            return most + 1;
        }

        boolean reaches(String from, String to, Set<String> seen) {
            for (String next : calls.getOrDefault(from, Set.of())) {
                if (next.equals(to) || seen.add(next) && reaches(next, to, seen)) {
                    return true;
                }
            }
            return false;
        }
    }

    private static void holds(int rule) {
        due("what is against it", form.against.getOrDefault(rule, List.of()), List.of());
    }

    private static void depthIsCarried() {
        for (Map.Entry<String, MethodTree> method : form.methods.entrySet()) {
            if (form.reaches(method.getKey(), method.getKey(), new HashSet<>())) {
                boolean carried = method.getValue().getParameters().stream()
                        .anyMatch(p -> p.getName().contentEquals("depth"));
                due(method.getKey() + ", which calls itself, carries its depth", carried, true);
            }
        }
    }

    private static void eightDeep() {
        for (String name : form.methods.keySet()) {
            int deepest = form.deepest(name, new HashSet<>());
            due(name + " goes " + deepest + " calls deep, at most eight", deepest <= MOST_DEEP, true);
        }
    }

    public static void main(String[] args) {
        form.read(PROGRAM);
        test("rule 2: static classes, no lambda, no method reference", () -> holds(2));
        test("rule 3: types", () -> holds(3));
        test("rule 4: the library", () -> holds(4));
        test("rule 5: no static state", () -> holds(5));
        test("rule 6: exceptions", () -> holds(6));
        test("rule 8: recursion", () -> depthIsCarried());
        test("rule 9: loops", () -> holds(9));
        test("rule 10: texts are not joined by +", () -> holds(10));
        test("rule 11: short methods with few parameters, small classes", () -> holds(11));
        test("rule 11: at most some twelve classes", () ->
                due("few classes", form.classes.size() <= MOST_CLASSES, true));
        test("rule 11: calls that are no recursion go at most eight deep", () -> eightDeep());
        test("rule 12: objects are made with the workbench, or to be thrown", () -> holds(12));
        end("rules of LANGUAGE.md");
    }
}
