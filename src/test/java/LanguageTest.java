import com.sun.source.tree.AssertTree;
import com.sun.source.tree.CatchTree;
import com.sun.source.tree.ClassTree;
import com.sun.source.tree.CompilationUnitTree;
import com.sun.source.tree.LambdaExpressionTree;
import com.sun.source.tree.LineMap;
import com.sun.source.tree.MemberReferenceTree;
import com.sun.source.tree.MethodInvocationTree;
import com.sun.source.tree.MethodTree;
import com.sun.source.tree.NewArrayTree;
import com.sun.source.tree.NewClassTree;
import com.sun.source.tree.SynchronizedTree;
import com.sun.source.tree.ThrowTree;
import com.sun.source.tree.Tree;
import com.sun.source.tree.TryTree;
import com.sun.source.tree.VariableTree;
import com.sun.source.tree.WhileLoopTree;
import com.sun.source.util.JavacTask;
import com.sun.source.util.SourcePositions;
import com.sun.source.util.TreePathScanner;
import com.sun.source.util.Trees;
import java.nio.file.Path;
import java.util.HashMap;
import java.util.HashSet;
import java.util.List;
import java.util.Map;
import java.util.Set;
import java.util.TreeSet;
import javax.lang.model.element.Element;
import javax.lang.model.element.ElementKind;
import javax.lang.model.element.Modifier;
import javax.tools.JavaCompiler;
import javax.tools.StandardJavaFileManager;
import javax.tools.ToolProvider;

/** The rules of LANGUAGE.md that can be read off the source. */
public final class LanguageTest {
    private static final Set<String> LIBRARY = Set.of("java.lang.Math.abs", "java.lang.Math.max", "java.lang.Math.min",
            "java.lang.Integer.bitCount", "java.lang.System.arraycopy", "java.lang.Object.<init>");

    public static void main(String[] args) throws Exception {
        JavaCompiler javac = ToolProvider.getSystemJavaCompiler();
        StandardJavaFileManager files = javac.getStandardFileManager(null, null, null);
        JavacTask task = (JavacTask) javac.getTask(null, files, null, List.of("-proc:none"), null,
                files.getJavaFileObjects(Path.of("src/main/java/WidenedBanks.java")));
        CompilationUnitTree unit = task.parse().iterator().next();
        task.analyze();
        Rules rules = new Rules(Trees.instance(task), unit);
        rules.scan(unit, null);
        rules.whole();
        Due.end();
    }

    private static final class Rules extends TreePathScanner<Void, Void> {
        private final Trees trees;
        private final CompilationUnitTree unit;
        private final SourcePositions positions;
        private final LineMap lineMap;
        private final Map<Element, Set<Element>> calls = new HashMap<>();
        private final Set<String> publicNames = new TreeSet<>();
        private final Set<String> otherNames = new TreeSet<>();
        private int classes = 0;
        private MethodTree method = null;

        Rules(Trees trees, CompilationUnitTree unit) {
            this.trees = trees;
            this.unit = unit;
            positions = trees.getSourcePositions();
            lineMap = unit.getLineMap();
        }

        private void never(String rule, Tree tree) {
            Due.fail("line " + lineMap.getLineNumber(positions.getStartPosition(unit, tree)) + ": " + rule);
        }

        void whole() {
            Due.holds("no import", unit.getImports().isEmpty());
            Due.holds("no package", unit.getPackageName() == null);
            Due.holds("rule 11: at most twelve classes, not " + classes, classes <= 12);
            for (String name : otherNames) {
                Due.holds("rule 1: " + name + " bears the name of a public method", !publicNames.contains(name));
            }
            int deepest = 0;
            for (Element each : calls.keySet()) {
                deepest = Math.max(deepest, depth(each, new HashSet<>()));
            }
            Due.holds("rule 11: calls go eight deep at most, not " + deepest, deepest <= 8);
        }

        /** Calls that go in a ring are recursion, and don't count. */
        private int depth(Element from, Set<Element> above) {
            if (!above.add(from)) {
                return 0;
            }
            int deepest = 0;
            for (Element to : calls.getOrDefault(from, Set.of())) {
                deepest = Math.max(deepest, depth(to, above));
            }
            above.remove(from);
            return deepest + 1;
        }

        @Override
        public Void visitClass(ClassTree tree, Void none) {
            classes++;
            int fields = 0;
            for (Tree member : tree.getMembers()) {
                if (member.getKind() == Tree.Kind.BLOCK) {
                    never("rule 5: no initialiser block", member);
                }
                if (member instanceof VariableTree field) {
                    boolean still = field.getModifiers().getFlags().contains(Modifier.STATIC);
                    fields += still ? 0 : 1;
                    if (still && !field.getModifiers().getFlags().contains(Modifier.FINAL)) {
                        never("rule 5: static fields are final", member);
                    }
                }
            }
            Due.holds("rule 11: at most twenty fields in " + tree.getSimpleName(), fields <= 20);
            if (method != null || tree.getSimpleName().length() == 0) {
                never("rule 2: no local or anonymous class", tree);
            }
            return super.visitClass(tree, none);
        }

        @Override
        public Void visitMethod(MethodTree tree, Void none) {
            Element element = trees.getElement(getCurrentPath());
            boolean face = element.getEnclosingElement().getSimpleName().contentEquals("WidenedBanks")
                    && element.getModifiers().contains(Modifier.PUBLIC);
            if (element.getKind() == ElementKind.METHOD) {
                (face ? publicNames : otherNames).add(tree.getName().toString());
            }
            long lines = lineMap.getLineNumber(positions.getEndPosition(unit, tree))
                    - lineMap.getLineNumber(Math.max(0, positions.getStartPosition(unit, tree)));
            Due.holds("rule 11: " + tree.getName() + " has at most sixty lines", lines <= 60);
            Due.holds("rule 11: " + tree.getName() + " takes at most seven parameters", tree.getParameters().size() <= 7);
            MethodTree outer = method;
            method = tree;
            super.visitMethod(tree, none);
            method = outer;
            return null;
        }

        @Override
        public Void visitMethodInvocation(MethodInvocationTree tree, Void none) {
            Element to = trees.getElement(getCurrentPath());
            String owner = to.getEnclosingElement().toString();
            if (owner.startsWith("WidenedBanks")) {
                if (method != null) {
                    Element from = trees.getElement(trees.getPath(unit, method));
                    calls.computeIfAbsent(from, k -> new HashSet<>()).add(to);
                }
            } else if (!LIBRARY.contains(owner + "." + to.getSimpleName())) {
                never("rule 4: " + owner + "." + to.getSimpleName(), tree);
            }
            return super.visitMethodInvocation(tree, none);
        }

        private void made(Tree tree) {
            if (method != null && !method.getName().contentEquals("<init>")) {
                never("rows and objects are made in constructors and used again", tree);
            }
        }

        @Override
        public Void visitNewArray(NewArrayTree tree, Void none) {
            made(tree);
            return super.visitNewArray(tree, none);
        }

        @Override
        public Void visitNewClass(NewClassTree tree, Void none) {
            made(tree);
            return super.visitNewClass(tree, none);
        }

        @Override
        public Void visitThrow(ThrowTree tree, Void none) {
            never("rule 6: throw", tree);
            return null;
        }

        @Override
        public Void visitTry(TryTree tree, Void none) {
            never("rule 6: try", tree);
            return null;
        }

        @Override
        public Void visitCatch(CatchTree tree, Void none) {
            never("rule 6: catch", tree);
            return null;
        }

        @Override
        public Void visitAssert(AssertTree tree, Void none) {
            never("rule 6: assert", tree);
            return null;
        }

        @Override
        public Void visitSynchronized(SynchronizedTree tree, Void none) {
            never("rule 6: synchronized", tree);
            return null;
        }

        @Override
        public Void visitLambdaExpression(LambdaExpressionTree tree, Void none) {
            never("rule 2: lambda", tree);
            return null;
        }

        @Override
        public Void visitMemberReference(MemberReferenceTree tree, Void none) {
            never("rule 2: method reference", tree);
            return null;
        }

        @Override
        public Void visitWhileLoop(WhileLoopTree tree, Void none) {
            String condition = tree.getCondition().toString();
            if (!condition.contains("<")) {
                never("rule 9: a loop's end is seen from its own lines", tree);
            }
            return super.visitWhileLoop(tree, none);
        }
    }
}
