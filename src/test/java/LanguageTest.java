import com.sun.source.tree.AssertTree;
import com.sun.source.tree.BinaryTree;
import com.sun.source.tree.CatchTree;
import com.sun.source.tree.ClassTree;
import com.sun.source.tree.CompilationUnitTree;
import com.sun.source.tree.DoWhileLoopTree;
import com.sun.source.tree.EnhancedForLoopTree;
import com.sun.source.tree.ForLoopTree;
import com.sun.source.tree.LambdaExpressionTree;
import com.sun.source.tree.LineMap;
import com.sun.source.tree.MemberReferenceTree;
import com.sun.source.tree.MethodInvocationTree;
import com.sun.source.tree.MethodTree;
import com.sun.source.tree.NewClassTree;
import com.sun.source.tree.SynchronizedTree;
import com.sun.source.tree.ThrowTree;
import com.sun.source.tree.Tree;
import com.sun.source.tree.TryTree;
import com.sun.source.tree.VariableTree;
import com.sun.source.tree.WhileLoopTree;
import com.sun.source.util.JavacTask;
import com.sun.source.util.SourcePositions;
import com.sun.source.util.TreePath;
import com.sun.source.util.TreePathScanner;
import com.sun.source.util.Trees;
import java.nio.file.Path;
import java.util.HashSet;
import java.util.List;
import java.util.Map;
import java.util.Set;
import java.util.TreeMap;
import java.util.TreeSet;
import javax.lang.model.element.Element;
import javax.lang.model.element.ElementKind;
import javax.lang.model.element.Modifier;
import javax.lang.model.type.ArrayType;
import javax.lang.model.type.TypeMirror;
import javax.tools.JavaCompiler;
import javax.tools.StandardJavaFileManager;
import javax.tools.ToolProvider;

/** Rules of LANGUAGE.md, checked in part by the compiler's own tree of the source: each test names its own. */
final class LanguageTest {
    private static final Path SOURCE = Path.of("src/main/java/HexWorkbench.java");
    private static final int MOST_PARAMETERS = 7;
    private static final int MOST_LINES = 60;
    private static final int MOST_CLASSES = 12;
    private static final int MOST_FIELDS = 20;
    private static final int DEEPEST_CALLS = 8;
    /** The only methods that call themselves or one another; their depth is an argument. */
    private static final Set<String> RECURSIVE = Set.of("Contest.outcome", "Contest.bestOutcome");
    /** What the source takes from the library; all of it stands in rule 4. */
    private static final Set<String> LIBRARY = Set.of("Long.bitCount", "Math.min", "Math.max");
    private static final Set<String> OWN_TYPES = Set.of("HexWorkbench", "HexWorkbench.Board", "HexWorkbench.Game",
            "HexWorkbench.Paths", "HexWorkbench.Fillings", "HexWorkbench.Contest");

    private static final Source SEEN = new Source();

    public static void main(String[] args) throws Exception {
        Due.runAll(LanguageTest.class);
    }

    /** Looks at the whole source once, and keeps what the tests ask for. */
    private static final class Source extends TreePathScanner<Void, Void> {
        final Map<String, Integer> lines = new TreeMap<>();
        final Map<String, Integer> parameters = new TreeMap<>();
        final Map<String, Integer> fields = new TreeMap<>();
        final Map<String, Set<String>> calls = new TreeMap<>();
        final Set<String> library = new TreeSet<>();
        final Set<String> types = new TreeSet<>();
        final Set<String> faults = new TreeSet<>();
        int loops;
        private final Trees trees;
        private final SourcePositions positions;
        private final CompilationUnitTree unit;
        private final LineMap map;
        private String method = "";

        Source() {
            try {
                JavaCompiler compiler = ToolProvider.getSystemJavaCompiler();
                StandardJavaFileManager files = compiler.getStandardFileManager(null, null, null);
                JavacTask task = (JavacTask) compiler.getTask(null, files, null, List.of("-proc:none"), null,
                        files.getJavaFileObjects(SOURCE));
                unit = task.parse().iterator().next();
                task.analyze();
                trees = Trees.instance(task);
            } catch (java.io.IOException e) {
                throw new IllegalStateException(e);
            }
            positions = trees.getSourcePositions();
            map = unit.getLineMap();
            scan(new TreePath(unit), null);
        }

        private long lineOf(Tree tree) {
            return map.getLineNumber(positions.getStartPosition(unit, tree));
        }

        private void fault(Tree tree, String what) {
            faults.add("line " + lineOf(tree) + ": " + what);
        }

        private static String nameOf(Element member) {
            return member.getEnclosingElement().getSimpleName() + "." + member.getSimpleName();
        }

        @Override
        public Void visitClass(ClassTree tree, Void none) {
            Element type = trees.getElement(getCurrentPath());
            boolean inside = type.getEnclosingElement().getKind().isClass();
            boolean outermost = type.getEnclosingElement().getKind() == ElementKind.PACKAGE;
            if (!outermost && !(inside && type.getModifiers().contains(Modifier.STATIC))) {
                fault(tree, "a class that is neither outermost nor static inside");
            }
            int count = 0;
            for (Element member : type.getEnclosedElements()) {
                boolean constant = member.getModifiers().contains(Modifier.STATIC);
                count += member.getKind() == ElementKind.FIELD && !constant ? 1 : 0;
            }
            fields.put(type.toString(), count);
            return super.visitClass(tree, none);
        }

        @Override
        public Void visitMethod(MethodTree tree, Void none) {
            Element element = trees.getElement(getCurrentPath());
            method = nameOf(element);
            long last = map.getLineNumber(positions.getEndPosition(unit, tree));
            lines.put(method, (int) (last - lineOf(tree) + 1));
            parameters.put(method, tree.getParameters().size());
            calls.putIfAbsent(method, new TreeSet<>());
            super.visitMethod(tree, none);
            method = "";
            return null;
        }

        @Override
        public Void visitVariable(VariableTree tree, Void none) {
            Element element = trees.getElement(getCurrentPath());
            Set<Modifier> modifiers = element.getModifiers();
            if (modifiers.contains(Modifier.STATIC) && !modifiers.contains(Modifier.FINAL)) {
                fault(tree, "a static field that is not final");
            }
            TypeMirror type = element.asType();
            boolean array = type instanceof ArrayType;
            types.add((array ? ((ArrayType) type).getComponentType() : type).toString());
            return super.visitVariable(tree, none);
        }

        @Override
        public Void visitMethodInvocation(MethodInvocationTree tree, Void none) {
            Element called = trees.getElement(getCurrentPath());
            String name = nameOf(called);
            boolean own = called.getEnclosingElement().toString().startsWith("HexWorkbench");
            // A constructor's call of Object's own is written by the compiler.
            if (own) {
                calls.computeIfAbsent(method, key -> new TreeSet<>()).add(name);
            } else if (!name.equals("Object.<init>")) {
                library.add(name);
            }
            return super.visitMethodInvocation(tree, none);
        }

        @Override
        public Void visitNewClass(NewClassTree tree, Void none) {
            Element called = trees.getElement(getCurrentPath());
            calls.computeIfAbsent(method, key -> new TreeSet<>()).add(nameOf(called));
            if (tree.getClassBody() != null) {
                fault(tree, "an anonymous class");
            }
            return super.visitNewClass(tree, none);
        }

        /** The end of a loop can be seen: a counter is compared with a bound, and changed at each turn. */
        @Override
        public Void visitForLoop(ForLoopTree tree, Void none) {
            loops++;
            boolean counts = tree.getInitializer().size() == 1 && tree.getUpdate().size() == 1
                    && tree.getInitializer().get(0) instanceof VariableTree;
            if (!counts || tree.getCondition() == null || !comparesFirst(tree)) {
                fault(tree, "a loop whose end can't be seen");
            }
            return super.visitForLoop(tree, none);
        }

        private static boolean comparesFirst(ForLoopTree tree) {
            String counter = ((VariableTree) tree.getInitializer().get(0)).getName().toString();
            Tree condition = tree.getCondition();
            while (condition instanceof BinaryTree both && both.getKind() == Tree.Kind.CONDITIONAL_AND) {
                condition = both.getLeftOperand();
            }
            String step = tree.getUpdate().get(0).toString();
            return condition instanceof BinaryTree test && test.getLeftOperand().toString().equals(counter)
                    && (step.equals(counter + "++;") || step.equals(counter + "--;"));
        }

        @Override
        public Void visitWhileLoop(WhileLoopTree tree, Void none) {
            fault(tree, "while");
            return super.visitWhileLoop(tree, none);
        }

        @Override
        public Void visitDoWhileLoop(DoWhileLoopTree tree, Void none) {
            fault(tree, "do");
            return super.visitDoWhileLoop(tree, none);
        }

        @Override
        public Void visitEnhancedForLoop(EnhancedForLoopTree tree, Void none) {
            fault(tree, "for over something; allowed over arrays, but this test does not look at it");
            return super.visitEnhancedForLoop(tree, none);
        }

        @Override
        public Void visitBinary(BinaryTree tree, Void none) {
            TypeMirror type = trees.getTypeMirror(getCurrentPath());
            if (type != null && !type.getKind().isPrimitive()) {
                fault(tree, "texts joined by +");
            }
            return super.visitBinary(tree, none);
        }

        @Override
        public Void visitLambdaExpression(LambdaExpressionTree tree, Void none) {
            fault(tree, "a lambda");
            return super.visitLambdaExpression(tree, none);
        }

        @Override
        public Void visitMemberReference(MemberReferenceTree tree, Void none) {
            fault(tree, "a method reference");
            return super.visitMemberReference(tree, none);
        }

        @Override
        public Void visitThrow(ThrowTree tree, Void none) {
            fault(tree, "throw");
            return super.visitThrow(tree, none);
        }

        @Override
        public Void visitTry(TryTree tree, Void none) {
            fault(tree, "try");
            return super.visitTry(tree, none);
        }

        @Override
        public Void visitCatch(CatchTree tree, Void none) {
            fault(tree, "catch");
            return super.visitCatch(tree, none);
        }

        @Override
        public Void visitSynchronized(SynchronizedTree tree, Void none) {
            fault(tree, "synchronized");
            return super.visitSynchronized(tree, none);
        }

        @Override
        public Void visitAssert(AssertTree tree, Void none) {
            fault(tree, "assert");
            return super.visitAssert(tree, none);
        }
    }

    /** Rules 2, 5, 6, 9 and 10. */
    static void noForbiddenForms() {
        Due.same("the faults", SEEN.faults.toString(), "[]");
        Due.holds("loops were looked at", SEEN.loops > 10);
    }

    /** Rules 3 and 4. */
    static void onlyListedTypesAndLibrary() {
        Set<String> types = new TreeSet<>(SEEN.types);
        types.removeAll(OWN_TYPES);
        types.removeAll(Set.of("int", "long", "byte", "boolean"));
        Due.same("types beside numbers and own classes", types.toString(), "[]");
        Due.same("what is called of the library", SEEN.library.toString(), new TreeSet<>(LIBRARY).toString());
    }

    /** Rule 11, without the depth of calls. */
    static void sizesAreSmall() {
        SEEN.lines.forEach((name, lines) -> Due.holds(name + " has " + lines + " lines", lines <= MOST_LINES));
        SEEN.parameters.forEach((name, count) -> Due.holds(name + " takes " + count, count <= MOST_PARAMETERS));
        SEEN.fields.forEach((name, count) -> Due.holds(name + " has " + count + " fields", count <= MOST_FIELDS));
        Due.holds(SEEN.fields.size() + " classes", SEEN.fields.size() <= MOST_CLASSES);
    }

    /** Rule 8. */
    static void onlyTheContestCallsItself() {
        for (String name : SEEN.calls.keySet()) {
            Set<String> reached = new HashSet<>();
            reach(name, reached, SEEN.calls.size());
            Due.holds(name + " calls itself only if it may", reached.contains(name) == RECURSIVE.contains(name));
        }
    }

    private static void reach(String name, Set<String> reached, int left) {
        for (String next : SEEN.calls.getOrDefault(name, Set.of())) {
            if (left > 0 && reached.add(next)) {
                reach(next, reached, left - 1);
            }
        }
    }

    /** Rule 11: the first call is the one from outside. */
    static void callsAreNotDeep() {
        for (String name : SEEN.calls.keySet()) {
            int depth = depth(name, new HashSet<>());
            Due.holds(name + " goes " + depth + " deep", depth <= DEEPEST_CALLS);
        }
    }

    private static int depth(String name, Set<String> open) {
        if (!open.add(name)) {
            return 0;
        }
        int deepest = 0;
        for (String next : SEEN.calls.getOrDefault(name, Set.of())) {
            deepest = Math.max(deepest, depth(next, open));
        }
        open.remove(name);
        return deepest + 1;
    }
}
