import com.sun.source.tree.AssertTree;
import com.sun.source.tree.BinaryTree;
import com.sun.source.tree.BlockTree;
import com.sun.source.tree.CatchTree;
import com.sun.source.tree.ClassTree;
import com.sun.source.tree.CompilationUnitTree;
import com.sun.source.tree.IdentifierTree;
import com.sun.source.tree.ImportTree;
import com.sun.source.tree.LambdaExpressionTree;
import com.sun.source.tree.LiteralTree;
import com.sun.source.tree.MemberReferenceTree;
import com.sun.source.tree.MemberSelectTree;
import com.sun.source.tree.MethodInvocationTree;
import com.sun.source.tree.MethodTree;
import com.sun.source.tree.NewClassTree;
import com.sun.source.tree.SynchronizedTree;
import com.sun.source.tree.ThrowTree;
import com.sun.source.tree.Tree;
import com.sun.source.tree.TryTree;
import com.sun.source.tree.VariableTree;
import com.sun.source.util.JavacTask;
import com.sun.source.util.SourcePositions;
import com.sun.source.util.TreePathScanner;
import com.sun.source.util.TreeScanner;
import com.sun.source.util.Trees;
import java.io.File;
import java.util.ArrayList;
import java.util.HashSet;
import java.util.LinkedHashMap;
import java.util.LinkedHashSet;
import java.util.List;
import java.util.Map;
import java.util.Set;
import javax.lang.model.element.ExecutableElement;
import javax.lang.model.element.Modifier;
import javax.tools.JavaCompiler;
import javax.tools.StandardJavaFileManager;
import javax.tools.ToolProvider;

/** Looks at the source by the rules of LANGUAGE.md that can be seen in a tree; the others are for the reader. */
public final class LanguageTest {
    private static final Set<String> LIBRARY = Set.of("Math.max", "Math.min", "Integer.bitCount", "System.arraycopy",
        "name.length", "name.charAt");

    public static void main(String[] args) throws Exception {
        JavaCompiler compiler = ToolProvider.getSystemJavaCompiler();
        try (StandardJavaFileManager files = compiler.getStandardFileManager(null, null, null)) {
            JavacTask task = (JavacTask) compiler.getTask(null, files, null, null, null,
                files.getJavaFileObjects(new File("src/main/java/TruthRope.java")));
            CompilationUnitTree unit = task.parse().iterator().next();
            Check.due("no package", unit.getPackageName() == null ? 1 : 0, 1);
            Check.due("one class in the file", unit.getTypeDecls().size(), 1);
            Names names = new Names();
            names.scan(unit, null);
            new Rules(unit, Trees.instance(task).getSourcePositions(), names).scan(unit, null);
            Check.that("rule 11: some twelve classes at most", names.classes <= 12);
            task.analyze();
            Calls calls = new Calls(Trees.instance(task));
            calls.scan(unit, null);
            for (ExecutableElement method : calls.of.keySet()) {
                Check.that("rule 11: how deep " + method + " goes", calls.depth(method, new ArrayList<>()) <= 8);
            }
            Check.due("rule 8: methods that call themselves", calls.recursive.size(), 1);
        }
        Check.finish();
    }

    /** What is declared, to tell own calls from the library's. */
    private static final class Names extends TreeScanner<Void, Void> {
        final Set<String> open = new HashSet<>();
        final Set<String> own = new HashSet<>();
        int classes = 0;

        @Override
        public Void visitClass(ClassTree node, Void unused) {
            classes++;
            return super.visitClass(node, unused);
        }

        @Override
        public Void visitMethod(MethodTree node, Void unused) {
            boolean isPublic = node.getModifiers().getFlags().contains(Modifier.PUBLIC);
            (isPublic ? open : own).add(node.getName().toString());
            return super.visitMethod(node, unused);
        }
    }

    /** Which own methods and constructors each one calls. */
    private static final class Calls extends TreePathScanner<Void, Void> {
        final Map<ExecutableElement, Set<ExecutableElement>> of = new LinkedHashMap<>();
        final Set<ExecutableElement> recursive = new HashSet<>();
        private final Trees trees;
        private ExecutableElement in = null;

        Calls(Trees trees) {
            this.trees = trees;
        }

        /** How many calls stand open at most; one that calls itself, or one that calls it, is no deeper by that. */
        int depth(ExecutableElement method, List<ExecutableElement> open) {
            int deepest = 0;
            open.add(method);
            for (ExecutableElement called : of.getOrDefault(method, Set.of())) {
                if (open.contains(called)) {
                    recursive.add(called);
                } else {
                    deepest = Math.max(deepest, depth(called, open));
                }
            }
            open.remove(open.size() - 1);
            return deepest + 1;
        }

        @Override
        public Void visitMethod(MethodTree node, Void unused) {
            in = (ExecutableElement) trees.getElement(getCurrentPath());
            of.put(in, new LinkedHashSet<>());
            super.visitMethod(node, unused);
            in = null;
            return null;
        }

        @Override
        public Void visitMethodInvocation(MethodInvocationTree node, Void unused) {
            note();
            return super.visitMethodInvocation(node, unused);
        }

        @Override
        public Void visitNewClass(NewClassTree node, Void unused) {
            note();
            return super.visitNewClass(node, unused);
        }

        private void note() {
            if (in != null && trees.getElement(getCurrentPath()) instanceof ExecutableElement called
                    && trees.getTree(called) != null) {
                of.get(in).add(called);
            }
        }
    }

    private static final class Rules extends TreeScanner<Void, Void> {
        private final CompilationUnitTree unit;
        private final SourcePositions positions;
        private final Names names;

        Rules(CompilationUnitTree unit, SourcePositions positions, Names names) {
            this.unit = unit;
            this.positions = positions;
            this.names = names;
        }

        private long line(long position) {
            return unit.getLineMap().getLineNumber(position);
        }

        private void refuse(int rule, Tree node) {
            Check.that("rule " + rule + ", line " + line(positions.getStartPosition(unit, node)), false);
        }

        @Override
        public Void visitClass(ClassTree node, Void unused) {
            int fields = 0;
            for (Tree member : node.getMembers()) {
                if (member instanceof BlockTree) {
                    refuse(5, member);
                }
                if (member instanceof VariableTree field) {
                    Set<Modifier> flags = field.getModifiers().getFlags();
                    if (!flags.contains(Modifier.STATIC)) {
                        fields++;
                    } else if (!flags.contains(Modifier.FINAL)) {
                        refuse(5, field);
                    }
                }
                if (member instanceof ClassTree inside
                        && !inside.getModifiers().getFlags().contains(Modifier.STATIC)) {
                    refuse(2, inside);
                }
            }
            Check.that("rule 11: fields of " + node.getSimpleName(), fields <= 20);
            return super.visitClass(node, unused);
        }

        @Override
        public Void visitMethod(MethodTree node, Void unused) {
            String name = node.getName().toString();
            long lines = line(positions.getEndPosition(unit, node)) - line(positions.getStartPosition(unit, node)) + 1;
            Check.that("rule 11: lines of " + name, lines <= 60);
            Check.that("rule 11: parameters of " + name, node.getParameters().size() <= 7);
            boolean isPublic = node.getModifiers().getFlags().contains(Modifier.PUBLIC);
            Check.that("rule 1: the name of " + name, isPublic || name.equals("<init>") || !names.open.contains(name));
            return super.visitMethod(node, unused);
        }

        @Override
        public Void visitMethodInvocation(MethodInvocationTree node, Void unused) {
            if (node.getMethodSelect() instanceof MemberSelectTree select) {
                String call = select.toString();
                boolean isOwn = names.own.contains(select.getIdentifier().toString());
                Check.that("rule 4: " + call, isOwn || LIBRARY.contains(call));
            } else if (node.getMethodSelect() instanceof IdentifierTree own) {
                String call = own.getName().toString();
                Check.that("rule 4: " + call, names.own.contains(call) || call.equals("super"));
            }
            return super.visitMethodInvocation(node, unused);
        }

        @Override
        public Void visitLiteral(LiteralTree node, Void unused) {
            if (node.getValue() instanceof String text) {
                Check.that("rule 4: the text '" + text + "'", text.chars().allMatch(c -> c >= 1 && c <= 127));
            }
            Check.that("rule 3: no double", !(node.getValue() instanceof Double));
            return super.visitLiteral(node, unused);
        }

        @Override
        public Void visitBinary(BinaryTree node, Void unused) {
            boolean joinsText = node.getLeftOperand() instanceof LiteralTree left && left.getValue() instanceof String
                || node.getRightOperand() instanceof LiteralTree right && right.getValue() instanceof String;
            if (joinsText) {
                refuse(10, node);
            }
            return super.visitBinary(node, unused);
        }

        @Override
        public Void visitImport(ImportTree node, Void unused) {
            refuse(4, node);
            return null;
        }

        @Override
        public Void visitThrow(ThrowTree node, Void unused) {
            refuse(6, node);
            return null;
        }

        @Override
        public Void visitTry(TryTree node, Void unused) {
            refuse(6, node);
            return null;
        }

        @Override
        public Void visitCatch(CatchTree node, Void unused) {
            refuse(6, node);
            return null;
        }

        @Override
        public Void visitSynchronized(SynchronizedTree node, Void unused) {
            refuse(6, node);
            return null;
        }

        @Override
        public Void visitAssert(AssertTree node, Void unused) {
            refuse(6, node);
            return null;
        }

        @Override
        public Void visitLambdaExpression(LambdaExpressionTree node, Void unused) {
            refuse(2, node);
            return null;
        }

        @Override
        public Void visitMemberReference(MemberReferenceTree node, Void unused) {
            refuse(2, node);
            return null;
        }
    }
}
