import com.sun.source.tree.AssertTree;
import com.sun.source.tree.ClassTree;
import com.sun.source.tree.CompilationUnitTree;
import com.sun.source.tree.ImportTree;
import com.sun.source.tree.LambdaExpressionTree;
import com.sun.source.tree.LineMap;
import com.sun.source.tree.MemberReferenceTree;
import com.sun.source.tree.MethodInvocationTree;
import com.sun.source.tree.MethodTree;
import com.sun.source.tree.NewClassTree;
import com.sun.source.tree.SynchronizedTree;
import com.sun.source.tree.ThrowTree;
import com.sun.source.tree.Tree;
import com.sun.source.tree.TryTree;
import com.sun.source.tree.VariableTree;
import com.sun.source.util.JavacTask;
import com.sun.source.util.TreePathScanner;
import com.sun.source.util.Trees;
import java.io.File;
import java.util.ArrayList;
import java.util.HashMap;
import java.util.HashSet;
import java.util.LinkedHashMap;
import java.util.List;
import java.util.Map;
import java.util.Set;
import javax.lang.model.element.Element;
import javax.lang.model.element.Modifier;
import javax.tools.JavaCompiler;
import javax.tools.StandardJavaFileManager;
import javax.tools.ToolProvider;

/** Looks at the source for what LANGUAGE.md rules out, as far as that can be seen by its form. */
public final class LanguageTest {
    private static final Set<String> IMPORTS = Set.of("java.util.ArrayList", "java.util.List", "java.util.Arrays",
        "java.util.Iterator");
    private static final Set<String> LIBRARY = Set.of("java.lang.Math", "java.lang.Integer", "java.lang.Long",
        "java.lang.System", "java.lang.String", "java.lang.StringBuilder", "java.util.ArrayList", "java.util.List",
        "java.util.Arrays", "java.lang.Iterable", "java.util.Iterator", "java.lang.Comparable");
    private static final int MOST_PARAMETERS = 7;
    private static final int MOST_LINES = 60;
    private static final int MOST_CLASSES = 12;
    private static final int MOST_FIELDS = 20;
    private static final int MOST_DEPTH = 8;

    public static void main(String[] args) throws Exception {
        JavaCompiler compiler = ToolProvider.getSystemJavaCompiler();
        StandardJavaFileManager files = compiler.getStandardFileManager(null, null, null);
        File source = new File("src/main/java/RowVotes.java");
        JavacTask task = (JavacTask) compiler.getTask(null, files, null, List.of("-proc:none"), null,
            files.getJavaFileObjects(source));
        CompilationUnitTree unit = task.parse().iterator().next();
        task.analyze();
        Scanner scanner = new Scanner(unit, Trees.instance(task));
        Due.is("a package line", unit.getPackageName() == null ? 0 : 1, 0);
        Due.is("classes beside the public one", unit.getTypeDecls().size(), 1);
        scanner.scan(unit, null);
        Due.is("too many classes", Math.max(scanner.classes, MOST_CLASSES), MOST_CLASSES);
        scanner.checkNames();
        scanner.checkDepths();
        Due.end();
    }

    private static final class Scanner extends TreePathScanner<Void, Void> {
        private final Trees trees;
        private final LineMap lines;
        private final CompilationUnitTree unit;
        private final Map<Element, Set<Element>> calls = new LinkedHashMap<>();
        private final Set<String> face = new HashSet<>();
        private final List<String> others = new ArrayList<>();
        private final Map<Element, Integer> depths = new HashMap<>();
        private Element method = null;
        private int classes = 0;

        Scanner(CompilationUnitTree unit, Trees trees) {
            this.unit = unit;
            this.trees = trees;
            this.lines = unit.getLineMap();
        }

        private void fault(String what, Tree where) {
            long at = lines.getLineNumber(trees.getSourcePositions().getStartPosition(unit, where));
            Due.is(what + " in line " + at, 1, 0);
        }

        @Override
        public Void visitImport(ImportTree tree, Void v) {
            if (!IMPORTS.contains(tree.getQualifiedIdentifier().toString())) {
                fault("an import", tree);
            }
            return super.visitImport(tree, v);
        }

        @Override
        public Void visitClass(ClassTree tree, Void v) {
            boolean outer = classes == 0;
            Set<Modifier> modifiers = tree.getModifiers().getFlags();
            classes++;
            if (method != null) {
                fault("a class inside a method", tree);
            } else if (outer != modifiers.contains(Modifier.PUBLIC) || modifiers.contains(Modifier.PROTECTED)) {
                fault("a class that is seen as it must not be", tree);
            } else if (!outer && tree.getKind() == Tree.Kind.CLASS && !modifiers.contains(Modifier.STATIC)) {
                fault("an inner class that is not static", tree);
            }
            int fields = 0;
            for (Tree member : tree.getMembers()) {
                fields += checkMember(member, outer);
            }
            if (fields > MOST_FIELDS) {
                fault("too many fields", tree);
            }
            return super.visitClass(tree, v);
        }

        /** 1 if it is a field and no constant, otherwise 0. */
        private int checkMember(Tree member, boolean outer) {
            if (member instanceof com.sun.source.tree.BlockTree) {
                fault("an initialiser block", member);
            }
            if (!(member instanceof VariableTree)) {
                return 0;
            }
            Set<Modifier> modifiers = ((VariableTree) member).getModifiers().getFlags();
            boolean constant = modifiers.contains(Modifier.STATIC);
            if (constant && !modifiers.contains(Modifier.FINAL)) {
                fault("a static field that is not final", member);
            }
            if (outer && !modifiers.contains(Modifier.PRIVATE) && !(modifiers.contains(Modifier.PUBLIC) && constant)) {
                fault("a field that is not private", member);
            }
            return constant ? 0 : 1;
        }

        @Override
        public Void visitMethod(MethodTree tree, Void v) {
            Element before = method;
            method = trees.getElement(getCurrentPath());
            calls.put(method, new HashSet<>());
            boolean inFace = tree.getModifiers().getFlags().contains(Modifier.PUBLIC);
            boolean outer = method.getEnclosingElement().getSimpleName().contentEquals("RowVotes");
            if (inFace && outer) {
                face.add(tree.getName().toString());
            } else {
                others.add(tree.getName().toString());
            }
            if (outer && !inFace && !tree.getModifiers().getFlags().contains(Modifier.PRIVATE)) {
                fault("a method that is neither public nor private", tree);
            }
            if (tree.getParameters().size() > MOST_PARAMETERS) {
                fault("too many parameters", tree);
            }
            long from = lines.getLineNumber(trees.getSourcePositions().getStartPosition(unit, tree));
            long to = lines.getLineNumber(Math.max(0, trees.getSourcePositions().getEndPosition(unit, tree)));
            if (to - from + 1 > MOST_LINES) {
                fault("too long a method", tree);
            }
            super.visitMethod(tree, v);
            method = before;
            return null;
        }

        @Override
        public Void visitMethodInvocation(MethodInvocationTree tree, Void v) {
            Element called = trees.getElement(getCurrentPath());
            String owner = called.getEnclosingElement().toString();
            if (!owner.startsWith("RowVotes") && !called.getSimpleName().contentEquals("<init>")
                && (!LIBRARY.contains(owner) || called.getSimpleName().toString().endsWith("Exact"))) {
                fault("a call of " + owner + "." + called.getSimpleName(), tree);
            }
            if (method != null) {
                calls.get(method).add(called);
            }
            return super.visitMethodInvocation(tree, v);
        }

        @Override
        public Void visitNewClass(NewClassTree tree, Void v) {
            if (tree.getClassBody() != null) {
                fault("an anonymous class", tree);
            }
            return super.visitNewClass(tree, v);
        }

        @Override
        public Void visitThrow(ThrowTree tree, Void v) {
            fault("throw", tree);
            return super.visitThrow(tree, v);
        }

        @Override
        public Void visitTry(TryTree tree, Void v) {
            fault("try", tree);
            return super.visitTry(tree, v);
        }

        @Override
        public Void visitSynchronized(SynchronizedTree tree, Void v) {
            fault("synchronized", tree);
            return super.visitSynchronized(tree, v);
        }

        @Override
        public Void visitAssert(AssertTree tree, Void v) {
            fault("assert", tree);
            return super.visitAssert(tree, v);
        }

        @Override
        public Void visitLambdaExpression(LambdaExpressionTree tree, Void v) {
            fault("a lambda", tree);
            return super.visitLambdaExpression(tree, v);
        }

        @Override
        public Void visitMemberReference(MemberReferenceTree tree, Void v) {
            fault("a method reference", tree);
            return super.visitMemberReference(tree, v);
        }

        void checkNames() {
            for (String name : others) {
                Due.is(name + " bears the name of a public method", face.contains(name) && !name.equals("<init>") ? 1 : 0, 0);
            }
            Due.is("methods of the face", face.size(), 33);
        }

        /** No method calls itself, and none goes deeper than is allowed. */
        void checkDepths() {
            for (Element each : calls.keySet()) {
                int depth = depthOf(each, new HashSet<>());
                Due.is("depth of " + each + ": " + depth, depth <= MOST_DEPTH ? 0 : 1, 0);
            }
        }

        private int depthOf(Element each, Set<Element> open) {
            if (depths.containsKey(each)) {
                return depths.get(each);
            }
            if (!open.add(each)) {
                Due.is("recursion of " + each, 1, 0);
                return 0;
            }
            int deepest = 0;
            for (Element called : calls.getOrDefault(each, Set.of())) {
                deepest = Math.max(deepest, depthOf(called, open));
            }
            open.remove(each);
            depths.put(each, deepest + 1);
            return deepest + 1;
        }
    }
}
