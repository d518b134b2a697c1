import com.sun.source.tree.AssignmentTree;
import com.sun.source.tree.BinaryTree;
import com.sun.source.tree.ClassTree;
import com.sun.source.tree.CompilationUnitTree;
import com.sun.source.tree.CompoundAssignmentTree;
import com.sun.source.tree.ExpressionTree;
import com.sun.source.tree.ForLoopTree;
import com.sun.source.tree.MethodInvocationTree;
import com.sun.source.tree.MethodTree;
import com.sun.source.tree.NewArrayTree;
import com.sun.source.tree.NewClassTree;
import com.sun.source.tree.Tree;
import com.sun.source.tree.UnaryTree;
import com.sun.source.tree.VariableTree;
import com.sun.source.tree.WhileLoopTree;
import com.sun.source.util.JavacTask;
import com.sun.source.util.SourcePositions;
import com.sun.source.util.TreePathScanner;
import com.sun.source.util.TreeScanner;
import com.sun.source.util.Trees;
import java.io.IOException;
import java.nio.file.Files;
import java.nio.file.Path;
import java.util.ArrayList;
import java.util.EnumSet;
import java.util.HashMap;
import java.util.HashSet;
import java.util.List;
import java.util.Map;
import java.util.Set;
import javax.lang.model.element.Element;
import javax.lang.model.element.ElementKind;
import javax.lang.model.element.Modifier;
import javax.tools.JavaCompiler;
import javax.tools.ToolProvider;

/** The rules of LANGUAGE.md on the class's source as the compiler reads it. */
final class LanguageTests {
    private static final Set<Tree.Kind> RULED_OUT = EnumSet.of(Tree.Kind.THROW, Tree.Kind.TRY,
            Tree.Kind.CATCH, Tree.Kind.SYNCHRONIZED, Tree.Kind.ASSERT, Tree.Kind.LAMBDA_EXPRESSION,
            Tree.Kind.MEMBER_REFERENCE, Tree.Kind.IMPORT, Tree.Kind.PACKAGE, Tree.Kind.ANNOTATION,
            Tree.Kind.STRING_LITERAL, Tree.Kind.CHAR_LITERAL, Tree.Kind.DOUBLE_LITERAL,
            Tree.Kind.FLOAT_LITERAL, Tree.Kind.TYPE_CAST, Tree.Kind.INSTANCE_OF,
            Tree.Kind.DO_WHILE_LOOP, Tree.Kind.SWITCH_EXPRESSION);
    private static final Set<String> LIBRARY = Set.of("java.lang.System.arraycopy",
            "java.lang.Math.max");
    private static final Set<String> TYPES = Set.of("int", "boolean", "void", "int[]", "boolean[]",
            "State", "State[]", "Piece", "Piece[]", "Seam", "Seam[]", "Part", "Part[]", "Marker");
    private static final int MOST_LINES = 60, MOST_PARAMETERS = 7, MOST_DEPTH = 8;
    private static final int MOST_CLASSES = 12, PROMISES = 39;

    private LanguageTests() {
    }

    static void runAll(Tests tests, Path source) throws IOException {
        JavaCompiler compiler = ToolProvider.getSystemJavaCompiler();
        JavacTask task = (JavacTask) compiler.getTask(null, null, null, List.of("-proc:none"), null,
                compiler.getStandardFileManager(null, null, null).getJavaFileObjects(source));
        CompilationUnitTree unit = task.parse().iterator().next();
        task.analyze();
        Reader reader = new Reader(Trees.instance(task), unit);
        reader.scan(unit, null);
        tests.run("rule 2: static classes inside, at most 12", t -> classes(t, reader));
        tests.run("rule 3: the types", t -> none(t, reader.otherTypes));
        tests.run("rules 3 and 10: signs 1 to 127", t -> signs(t, source));
        tests.run("rule 4: the library", t -> none(t, reader.otherCalls));
        tests.run("rules 2, 6 and 13: what is ruled out", t -> none(t, reader.ruledOut));
        tests.run("rule 8: no recursion", t -> circles(t, reader));
        tests.run("rule 9: every loop has an end", t -> none(t, reader.openLoops));
        tests.run("rule 11: short methods with few arguments", t -> none(t, reader.longMethods));
        tests.run("rule 11: calls at most eight deep", t -> depth(t, reader));
        tests.run("rule 12: objects are made in constructors alone", t -> none(t, reader.makings));
    }

    private static void none(Tests t, List<String> found) {
        for (String each : found) {
            t.fail(each);
        }
    }

    private static void classes(Tests t, Reader reader) {
        none(t, reader.otherClasses);
        t.due("classes", reader.classes > 1 && reader.classes <= MOST_CLASSES, true);
    }

    private static void signs(Tests t, Path source) {
        try {
            for (byte sign : Files.readAllBytes(source)) {
                if (sign <= 0) {
                    t.fail("a sign outside 1 to 127");
                }
            }
        } catch (IOException e) {
            t.fail("cannot read " + source);
        }
    }

    private static void circles(Tests t, Reader reader) {
        t.due("methods seen", reader.calls.size() >= PROMISES, true);
        for (Element method : reader.calls.keySet()) {
            if (!reader.depths().containsKey(method)) {
                t.fail(method + " is in a circle of calls, or calls one");
            }
        }
    }

    private static void depth(Tests t, Reader reader) {
        int deepest = 0;
        for (int depth : reader.depths().values()) {
            deepest = Math.max(deepest, depth);
        }
        t.due("the deepest call, " + deepest + ", is 2 to 8 deep",
                deepest >= 2 && deepest <= MOST_DEPTH, true);
    }

    /** Walks once over the source and notes what a rule may forbid, with the line it is in. */
    private static final class Reader extends TreePathScanner<Void, Void> {
        final List<String> otherClasses = new ArrayList<>();
        final List<String> otherTypes = new ArrayList<>();
        final List<String> otherCalls = new ArrayList<>();
        final List<String> ruledOut = new ArrayList<>();
        final List<String> openLoops = new ArrayList<>();
        final List<String> longMethods = new ArrayList<>();
        final List<String> makings = new ArrayList<>();
        final Map<Element, Set<Element>> calls = new HashMap<>();
        int classes;

        private final Trees trees;
        private final CompilationUnitTree unit;
        private Element method;

        Reader(Trees trees, CompilationUnitTree unit) {
            this.trees = trees;
            this.unit = unit;
        }

        private Element here() {
            return trees.getElement(getCurrentPath());
        }

        private long line(long position) {
            return unit.getLineMap().getLineNumber(position);
        }

        private String at(Tree tree) {
            return "line " + line(trees.getSourcePositions().getStartPosition(unit, tree)) + ": "
                    + tree.toString().lines().findFirst().orElse("");
        }

        @Override
        public Void scan(Tree tree, Void nothing) {
            if (tree != null && RULED_OUT.contains(tree.getKind())) {
                ruledOut.add(at(tree));
            }
            return super.scan(tree, nothing);
        }

        @Override
        public Void visitClass(ClassTree tree, Void nothing) {
            classes++;
            Element type = here();
            boolean inside = type.getEnclosingElement().getKind() == ElementKind.CLASS;
            Set<Modifier> modifiers = type.getModifiers();
            if (inside && !modifiers.equals(EnumSet.of(Modifier.PRIVATE, Modifier.STATIC,
                    Modifier.FINAL)) || method != null) {
                otherClasses.add(at(tree));
            }
            return super.visitClass(tree, nothing);
        }

        @Override
        public Void visitMethod(MethodTree tree, Void nothing) {
            method = here();
            calls.put(method, new HashSet<>());
            SourcePositions positions = trees.getSourcePositions();
            long lines = line(positions.getEndPosition(unit, tree))
                    - line(positions.getStartPosition(unit, tree)) + 1;
            if (lines > MOST_LINES || tree.getParameters().size() > MOST_PARAMETERS) {
                longMethods.add(at(tree));
            }
            if (tree.getReturnType() != null && !TYPES.contains(tree.getReturnType().toString())) {
                otherTypes.add(at(tree));
            }
            super.visitMethod(tree, nothing);
            method = null;
            return null;
        }

        @Override
        public Void visitVariable(VariableTree tree, Void nothing) {
            if (!TYPES.contains(String.valueOf(tree.getType()))) {
                otherTypes.add(at(tree));
            }
            return super.visitVariable(tree, nothing);
        }

        @Override
        public Void visitMethodInvocation(MethodInvocationTree tree, Void nothing) {
            Element called = here();
            Element owner = called.getEnclosingElement();
            if (called.getKind() == ElementKind.CONSTRUCTOR) {
                return super.visitMethodInvocation(tree, nothing);
            }
            if (trees.getTree(called) != null) {
                calls.get(method).add(called);
            } else if (!LIBRARY.contains(owner + "." + called.getSimpleName())) {
                otherCalls.add(at(tree));
            }
            return super.visitMethodInvocation(tree, nothing);
        }

        @Override
        public Void visitNewClass(NewClassTree tree, Void nothing) {
            if (tree.getClassBody() != null) {
                otherClasses.add(at(tree));
            }
            making(tree);
            return super.visitNewClass(tree, nothing);
        }

        @Override
        public Void visitNewArray(NewArrayTree tree, Void nothing) {
            making(tree);
            return super.visitNewArray(tree, nothing);
        }

        private void making(Tree tree) {
            if (method == null || method.getKind() != ElementKind.CONSTRUCTOR) {
                makings.add(at(tree));
            }
        }

        /** A counter that goes up to a bound, and that nothing else in the loop changes. */
        @Override
        public Void visitForLoop(ForLoopTree tree, Void nothing) {
            boolean closed = tree.getInitializer().size() == 1 && tree.getUpdate().size() == 1
                    && tree.getInitializer().get(0) instanceof VariableTree
                    && tree.getCondition() instanceof BinaryTree;
            if (closed) {
                String counter = ((VariableTree) tree.getInitializer().get(0)).getName().toString();
                BinaryTree condition = (BinaryTree) tree.getCondition();
                Tree.Kind kind = condition.getKind();
                closed = (kind == Tree.Kind.LESS_THAN || kind == Tree.Kind.LESS_THAN_EQUAL)
                        && condition.getLeftOperand().toString().equals(counter)
                        && tree.getUpdate().get(0).toString().replace(";", "")
                                .equals(counter + "++")
                        && changes(tree.getStatement(), counter) == 0;
            }
            if (!closed) {
                openLoops.add(at(tree));
            }
            return super.visitForLoop(tree, nothing);
        }

        /** The condition begins with a counter above 0, and the counter goes down each time. */
        @Override
        public Void visitWhileLoop(WhileLoopTree tree, Void nothing) {
            String condition = tree.getCondition().toString();
            String counter = condition.replaceAll("^\\((\\w+) > 0 && .*\\)$", "$1");
            if (!tree.getStatement().toString().contains("    " + counter + "--;")
                    || changes(tree.getStatement(), counter) != 1) {
                openLoops.add(at(tree));
            }
            return super.visitWhileLoop(tree, nothing);
        }

        private static int changes(Tree tree, String name) {
            int[] count = {0};
            new TreeScanner<Void, Void>() {
                @Override
                public Void visitAssignment(AssignmentTree each, Void nothing) {
                    count(each.getVariable());
                    return super.visitAssignment(each, nothing);
                }

                @Override
                public Void visitCompoundAssignment(CompoundAssignmentTree each, Void nothing) {
                    count(each.getVariable());
                    return super.visitCompoundAssignment(each, nothing);
                }

                @Override
                public Void visitUnary(UnaryTree each, Void nothing) {
                    count(each.getExpression());
                    return super.visitUnary(each, nothing);
                }

                private void count(ExpressionTree changed) {
                    if (changed.toString().equals(name)) {
                        count[0]++;
                    }
                }
            }.scan(tree, null);
            return count[0];
        }

        /** From below: known when those it calls are known, so never in a circle. */
        Map<Element, Integer> depths() {
            Map<Element, Integer> known = new HashMap<>();
            for (int round = 0; round < calls.size(); round++) {
                for (Map.Entry<Element, Set<Element>> each : calls.entrySet()) {
                    if (known.keySet().containsAll(each.getValue())) {
                        int deepest = 0;
                        for (Element called : each.getValue()) {
                            deepest = Math.max(deepest, known.get(called));
                        }
                        known.put(each.getKey(), deepest + 1);
                    }
                }
            }
            return known;
        }
    }
}
