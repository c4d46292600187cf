import com.sun.source.tree.ArrayAccessTree;
import com.sun.source.tree.AssertTree;
import com.sun.source.tree.AssignmentTree;
import com.sun.source.tree.BinaryTree;
import com.sun.source.tree.ClassTree;
import com.sun.source.tree.CompilationUnitTree;
import com.sun.source.tree.CompoundAssignmentTree;
import com.sun.source.tree.DoWhileLoopTree;
import com.sun.source.tree.ExpressionTree;
import com.sun.source.tree.ForLoopTree;
import com.sun.source.tree.IdentifierTree;
import com.sun.source.tree.ImportTree;
import com.sun.source.tree.InstanceOfTree;
import com.sun.source.tree.LambdaExpressionTree;
import com.sun.source.tree.LineMap;
import com.sun.source.tree.LiteralTree;
import com.sun.source.tree.MemberReferenceTree;
import com.sun.source.tree.MethodInvocationTree;
import com.sun.source.tree.MethodTree;
import com.sun.source.tree.NewArrayTree;
import com.sun.source.tree.NewClassTree;
import com.sun.source.tree.ParenthesizedTree;
import com.sun.source.tree.SynchronizedTree;
import com.sun.source.tree.ThrowTree;
import com.sun.source.tree.Tree;
import com.sun.source.tree.TryTree;
import com.sun.source.tree.TypeCastTree;
import com.sun.source.tree.UnaryTree;
import com.sun.source.tree.VariableTree;
import com.sun.source.tree.WhileLoopTree;
import com.sun.source.util.JavacTask;
import com.sun.source.util.TreePathScanner;
import com.sun.source.util.Trees;
import java.io.File;
import java.nio.file.Files;
import java.util.ArrayList;
import java.util.HashMap;
import java.util.HashSet;
import java.util.LinkedHashMap;
import java.util.List;
import java.util.Map;
import java.util.Set;
import javax.lang.model.element.Element;
import javax.lang.model.element.Modifier;
import javax.tools.JavaCompiler;
import javax.tools.StandardJavaFileManager;
import javax.tools.ToolProvider;

/** Looks at the source for what LANGUAGE.md rules out, as far as that can be seen by its form. */
public final class LanguageTest {
    private static final Set<String> IMPORTS = Set.of("java.util.ArrayList", "java.util.List", "java.util.Arrays",
        "java.util.Iterator");
    private static final Set<String> LIBRARY = Set.of("java.lang.Math", "java.lang.Integer", "java.lang.Long",
        "java.lang.System", "java.lang.String", "java.lang.StringBuilder", "java.util.ArrayList", "java.util.List",
        "java.util.Arrays", "java.lang.Iterable", "java.util.Iterator", "java.lang.Comparable");
    /** What the program needs of the types of rule 3, beside its own classes and arrays of them. */
    private static final Set<String> TYPES = Set.of("int", "char", "boolean", "void", "int[]", "char[]");
    private static final Set<String> WRITTEN_OUT = Set.of("int[]", "long[]", "char[]", "byte[]");
    private static final Set<String> RULED_OUT = Set.of("equals", "hashCode", "toString", "finalize", "clone");
    private static final int MOST_PARAMETERS = 7;
    private static final int MOST_LINES = 60;
    private static final int MOST_CLASSES = 12;
    private static final int MOST_FIELDS = 20;
    private static final int MOST_DEPTH = 8;

    public static void main(String[] args) throws Exception {
        JavaCompiler compiler = ToolProvider.getSystemJavaCompiler();
        StandardJavaFileManager files = compiler.getStandardFileManager(null, null, null);
        File source = new File("src/main/java/RowVotes.java");
        JavacTask task = (JavacTask) compiler.getTask(null, files, null, List.of("-proc:none"), null,
            files.getJavaFileObjects(source));
        CompilationUnitTree unit = task.parse().iterator().next();
        task.analyze();
        Scanner scanner = new Scanner(unit, Trees.instance(task));
        Due.is("a package line", unit.getPackageName() == null ? 0 : 1, 0);
        for (byte sign : Files.readAllBytes(source.toPath())) {
            Due.is("the sign " + sign, sign == '\n' || (sign >= 32 && sign <= 126) ? 0 : 1, 0);
        }
        Due.is("classes beside the public one", unit.getTypeDecls().size(), 1);
        scanner.scan(unit, null);
        Due.is("too many classes", Math.max(scanner.classes, MOST_CLASSES), MOST_CLASSES);
        scanner.checkTypes();
        scanner.checkNames();
        scanner.checkDepths();
        Due.end();
    }

    private static final class Scanner extends TreePathScanner<Void, Void> {
        private final Trees trees;
        private final LineMap lines;
        private final CompilationUnitTree unit;
        private final Map<Element, Set<Element>> calls = new LinkedHashMap<>();
        private final Set<String> face = new HashSet<>();
        private final List<String> others = new ArrayList<>();
        private final Set<String> own = new HashSet<>();
        private final Set<String> types = new HashSet<>();
        private final Map<Element, Integer> depths = new HashMap<>();
        private Element method = null;
        private int classes = 0;

        Scanner(CompilationUnitTree unit, Trees trees) {
            this.unit = unit;
            this.trees = trees;
            this.lines = unit.getLineMap();
        }

        private void fault(String what, Tree where) {
            long at = lines.getLineNumber(trees.getSourcePositions().getStartPosition(unit, where));
            Due.is(what + " in line " + at, 1, 0);
        }

        @Override
        public Void visitImport(ImportTree tree, Void v) {
            if (!IMPORTS.contains(tree.getQualifiedIdentifier().toString())) {
                fault("an import", tree);
            }
            return super.visitImport(tree, v);
        }

        @Override
        public Void visitClass(ClassTree tree, Void v) {
            boolean outer = classes == 0;
            own.add(tree.getSimpleName().toString());
            Set<Modifier> modifiers = tree.getModifiers().getFlags();
            classes++;
            if (method != null) {
                fault("a class inside a method", tree);
            } else if (outer != modifiers.contains(Modifier.PUBLIC) || modifiers.contains(Modifier.PROTECTED)) {
                fault("a class that is seen as it must not be", tree);
            } else if (!outer && tree.getKind() == Tree.Kind.CLASS && !modifiers.contains(Modifier.STATIC)) {
                fault("an inner class that is not static", tree);
            }
            int fields = 0;
            for (Tree member : tree.getMembers()) {
                fields += checkMember(member, outer);
            }
            if (fields > MOST_FIELDS) {
                fault("too many fields", tree);
            }
            return super.visitClass(tree, v);
        }

        /** 1 if it is a field and no constant, otherwise 0. */
        private int checkMember(Tree member, boolean outer) {
            if (member instanceof com.sun.source.tree.BlockTree) {
                fault("an initialiser block", member);
            }
            if (!(member instanceof VariableTree)) {
                return 0;
            }
            Set<Modifier> modifiers = ((VariableTree) member).getModifiers().getFlags();
            boolean constant = modifiers.contains(Modifier.STATIC);
            if (constant) {
                checkConstant((VariableTree) member);
            }
            if (outer && !modifiers.contains(Modifier.PRIVATE) && !(modifiers.contains(Modifier.PUBLIC) && constant)) {
                fault("a field that is not private", member);
            }
            return constant ? 0 : 1;
        }

        /** A static field is final, and an array's elements are written out. */
        private void checkConstant(VariableTree field) {
            if (!field.getModifiers().getFlags().contains(Modifier.FINAL) || field.getInitializer() == null) {
                fault("a static field that is not final", field);
            }
            String type = field.getType().toString();
            boolean array = type.endsWith("]");
            if (array && !WRITTEN_OUT.contains(type)) {
                fault("a static array of " + type, field);
            }
            if (array && (!(field.getInitializer() instanceof NewArrayTree)
                || ((NewArrayTree) field.getInitializer()).getInitializers() == null)) {
                fault("a static array that is not written out", field);
            }
        }

        @Override
        public Void visitVariable(VariableTree tree, Void v) {
            types.add(String.valueOf(tree.getType()));
            return super.visitVariable(tree, v);
        }

        @Override
        public Void visitMethod(MethodTree tree, Void v) {
            if (tree.getReturnType() != null) {
                types.add(tree.getReturnType().toString());
            }
            if (RULED_OUT.contains(tree.getName().toString())) {
                fault("a method " + tree.getName(), tree);
            }
            Element before = method;
            method = trees.getElement(getCurrentPath());
            calls.put(method, new HashSet<>());
            boolean inFace = tree.getModifiers().getFlags().contains(Modifier.PUBLIC);
            boolean outer = method.getEnclosingElement().getSimpleName().contentEquals("RowVotes");
            if (inFace && outer) {
                face.add(tree.getName().toString());
            } else {
                others.add(tree.getName().toString());
            }
            if (outer && !inFace && !tree.getModifiers().getFlags().contains(Modifier.PRIVATE)) {
                fault("a method that is neither public nor private", tree);
            }
            if (tree.getParameters().size() > MOST_PARAMETERS) {
                fault("too many parameters", tree);
            }
            long from = lines.getLineNumber(trees.getSourcePositions().getStartPosition(unit, tree));
            long to = lines.getLineNumber(Math.max(0, trees.getSourcePositions().getEndPosition(unit, tree)));
            if (to - from + 1 > MOST_LINES) {
                fault("too long a method", tree);
            }
            super.visitMethod(tree, v);
            method = before;
            return null;
        }

        @Override
        public Void visitMethodInvocation(MethodInvocationTree tree, Void v) {
            Element called = trees.getElement(getCurrentPath());
            String owner = called.getEnclosingElement().toString();
            if (!owner.startsWith("RowVotes") && !called.getSimpleName().contentEquals("<init>")
                && (!LIBRARY.contains(owner) || called.getSimpleName().toString().endsWith("Exact"))) {
                fault("a call of " + owner + "." + called.getSimpleName(), tree);
            }
            if (method != null) {
                calls.get(method).add(called);
            }
            return super.visitMethodInvocation(tree, v);
        }

        @Override
        public Void visitNewClass(NewClassTree tree, Void v) {
            if (tree.getClassBody() != null) {
                fault("an anonymous class", tree);
            }
            checkMaking(tree);
            return super.visitNewClass(tree, v);
        }

        @Override
        public Void visitNewArray(NewArrayTree tree, Void v) {
            checkMaking(tree);
            return super.visitNewArray(tree, v);
        }

        /** All that a call needs is made in constructors, or ahead of them. */
        private void checkMaking(Tree tree) {
            if (method != null && !method.getSimpleName().contentEquals("<init>")) {
                fault("an object that a call makes", tree);
            }
        }

        @Override
        public Void visitAssignment(AssignmentTree tree, Void v) {
            checkTarget(tree.getVariable());
            return super.visitAssignment(tree, v);
        }

        @Override
        public Void visitCompoundAssignment(CompoundAssignmentTree tree, Void v) {
            checkTarget(tree.getVariable());
            checkJoining(tree);
            return super.visitCompoundAssignment(tree, v);
        }

        @Override
        public Void visitUnary(UnaryTree tree, Void v) {
            checkTarget(tree.getExpression());
            return super.visitUnary(tree, v);
        }

        /** No element of a static array is written to: their names are in capitals. */
        private void checkTarget(ExpressionTree target) {
            if (target instanceof ArrayAccessTree) {
                ExpressionTree array = ((ArrayAccessTree) target).getExpression();
                if (array instanceof IdentifierTree && array.toString().equals(array.toString().toUpperCase())) {
                    fault("a constant that is changed", target);
                }
            }
        }

        @Override
        public Void visitBinary(BinaryTree tree, Void v) {
            checkJoining(tree);
            return super.visitBinary(tree, v);
        }

        private void checkJoining(Tree tree) {
            if (String.valueOf(trees.getTypeMirror(getCurrentPath())).equals("java.lang.String")) {
                fault("texts that are joined by +", tree);
            }
        }

        @Override
        public Void visitTypeCast(TypeCastTree tree, Void v) {
            if (!TYPES.contains(tree.getType().toString())) {
                fault("a cast to a class", tree);
            }
            return super.visitTypeCast(tree, v);
        }

        @Override
        public Void visitInstanceOf(InstanceOfTree tree, Void v) {
            fault("instanceof, which nothing here needs", tree);
            return super.visitInstanceOf(tree, v);
        }

        @Override
        public Void visitForLoop(ForLoopTree tree, Void v) {
            checkEnd(tree.getCondition(), tree);
            return super.visitForLoop(tree, v);
        }

        @Override
        public Void visitWhileLoop(WhileLoopTree tree, Void v) {
            checkEnd(tree.getCondition(), tree);
            return super.visitWhileLoop(tree, v);
        }

        @Override
        public Void visitDoWhileLoop(DoWhileLoopTree tree, Void v) {
            checkEnd(tree.getCondition(), tree);
            return super.visitDoWhileLoop(tree, v);
        }

        /** A loop's condition compares its counter with a bound. */
        private void checkEnd(ExpressionTree condition, Tree loop) {
            ExpressionTree bare = condition;
            while (bare instanceof ParenthesizedTree) {
                bare = ((ParenthesizedTree) bare).getExpression();
            }
            if (bare == null || bare instanceof LiteralTree || !bare.toString().contains("<")) {
                fault("a loop without a bound", loop);
            }
        }

        @Override
        public Void visitThrow(ThrowTree tree, Void v) {
            fault("throw", tree);
            return super.visitThrow(tree, v);
        }

        @Override
        public Void visitTry(TryTree tree, Void v) {
            fault("try", tree);
            return super.visitTry(tree, v);
        }

        @Override
        public Void visitSynchronized(SynchronizedTree tree, Void v) {
            fault("synchronized", tree);
            return super.visitSynchronized(tree, v);
        }

        @Override
        public Void visitAssert(AssertTree tree, Void v) {
            fault("assert", tree);
            return super.visitAssert(tree, v);
        }

        @Override
        public Void visitLambdaExpression(LambdaExpressionTree tree, Void v) {
            fault("a lambda", tree);
            return super.visitLambdaExpression(tree, v);
        }

        @Override
        public Void visitMemberReference(MemberReferenceTree tree, Void v) {
            fault("a method reference", tree);
            return super.visitMemberReference(tree, v);
        }

        void checkTypes() {
            for (String type : types) {
                boolean known = TYPES.contains(type) || own.contains(type.replace("[]", "")) && !type.endsWith("[][]");
                Due.is("the type " + type, known ? 0 : 1, 0);
            }
        }

        void checkNames() {
            for (String name : others) {
                Due.is(name + " bears the name of a public method", face.contains(name) && !name.equals("<init>") ? 1 : 0, 0);
            }
            Due.is("methods of the face", face.size(), 33);
        }

        /** No method calls itself, and none goes deeper than is allowed. */
        void checkDepths() {
            for (Element each : calls.keySet()) {
                int depth = depthOf(each, new HashSet<>());
                Due.is("depth of " + each + ": " + depth, depth <= MOST_DEPTH ? 0 : 1, 0);
            }
        }

        private int depthOf(Element each, Set<Element> open) {
            if (depths.containsKey(each)) {
                return depths.get(each);
            }
            if (!open.add(each)) {
                Due.is("recursion of " + each, 1, 0);
                return 0;
            }
            int deepest = 0;
            for (Element called : calls.getOrDefault(each, Set.of())) {
                deepest = Math.max(deepest, depthOf(called, open));
            }
            open.remove(each);
            depths.put(each, deepest + 1);
            return deepest + 1;
        }
    }
}
