import com.sun.source.tree.AssertTree;
import com.sun.source.tree.BinaryTree;
import com.sun.source.tree.BlockTree;
import com.sun.source.tree.ClassTree;
import com.sun.source.tree.CompilationUnitTree;
import com.sun.source.tree.CompoundAssignmentTree;
import com.sun.source.tree.LambdaExpressionTree;
import com.sun.source.tree.MemberReferenceTree;
import com.sun.source.tree.MethodInvocationTree;
import com.sun.source.tree.MethodTree;
import com.sun.source.tree.NewArrayTree;
import com.sun.source.tree.NewClassTree;
import com.sun.source.tree.SynchronizedTree;
import com.sun.source.tree.ThrowTree;
import com.sun.source.tree.Tree;
import com.sun.source.tree.TryTree;
import com.sun.source.tree.VariableTree;
import com.sun.source.util.JavacTask;
import com.sun.source.util.TreePath;
import com.sun.source.util.TreePathScanner;
import com.sun.source.util.Trees;
import java.io.IOException;
import java.nio.file.Path;
import java.util.List;
import java.util.Map;
import java.util.Set;
import java.util.TreeMap;
import java.util.TreeSet;
import javax.lang.model.element.Element;
import javax.lang.model.element.ElementKind;
import javax.lang.model.element.ExecutableElement;
import javax.lang.model.element.Modifier;
import javax.lang.model.type.ArrayType;
import javax.lang.model.type.TypeKind;
import javax.lang.model.type.TypeMirror;
import javax.tools.JavaCompiler;
import javax.tools.StandardJavaFileManager;
import javax.tools.ToolProvider;

/** The rules of LANGUAGE.md that a compiler can look at: the program's source, as javac reads it. */
final class LanguageTest {
    private static final int MOST_PARAMETERS = 7;
    private static final int MOST_CLASSES = 12;
    private static final int MOST_FIELDS = 20;
    private static final int DEEPEST = 8;
    /** What the program needs of the library that the rules leave it. */
    private static final Set<String> LIBRARY = Set.of("System.arraycopy", "Math.min", "Integer.bitCount",
            "String.length", "String.charAt");
    private static final Check check = new Check();

    private static Trees trees;
    private static CompilationUnitTree unit;
    private static final Map<String, Set<String>> calls = new TreeMap<>();

    public static void main(String[] args) throws IOException {
        JavaCompiler compiler = ToolProvider.getSystemJavaCompiler();
        try (StandardJavaFileManager files = compiler.getStandardFileManager(null, null, null)) {
            JavacTask task = (JavacTask) compiler.getTask(null, files, null, List.of("-proc:none"), null,
                    files.getJavaFileObjects(Path.of("src/main/java/SprayedLetters.java")));
            unit = task.parse().iterator().next();
            task.analyze();
            trees = Trees.instance(task);
            check.due("one class in the file", unit.getTypeDecls().size(), 1);
            check.due("no package, no imports", unit.getPackageName() == null && unit.getImports().isEmpty());
            Looker looker = new Looker();
            looker.scan(unit, null);
            check.due("classes", looker.classes <= MOST_CLASSES);
        }
        for (String method : calls.keySet()) {
            check.due("calls deep by " + method + ": " + depth(method, 1), depth(method, 1) <= DEEPEST);
        }
        check.finish();
    }

    /** How deep calls go from a method on, itself counted; a recursion counts as too deep. */
    private static int depth(String method, int above) {
        int most = 0;
        if (above <= DEEPEST) {
            for (String called : calls.getOrDefault(method, Set.of())) {
                most = Math.max(most, depth(called, above + 1));
            }
        }
        return 1 + most;
    }

    private static boolean isOwn(Element e) {
        Element top = e;
        while (top.getEnclosingElement() != null && top.getEnclosingElement().getKind() != ElementKind.PACKAGE) {
            top = top.getEnclosingElement();
        }
        return top.getSimpleName().contentEquals("SprayedLetters");
    }

    private static String nameOf(Element method) {
        return method.getEnclosingElement().getSimpleName() + "." + method;
    }

    private static final class Looker extends TreePathScanner<Void, Void> {
        int classes;
        private String method = "";
        private boolean makes = true;

        private void wrong(String what, Tree where) {
            long line = unit.getLineMap().getLineNumber(trees.getSourcePositions().getStartPosition(unit, where));
            check.due(what + " in line " + line, false);
        }

        private TypeMirror typeOf(Tree tree) {
            return trees.getTypeMirror(new TreePath(getCurrentPath(), tree));
        }

        @Override
        public Void visitClass(ClassTree tree, Void none) {
            classes++;
            int fields = 0;
            for (Tree member : tree.getMembers()) {
                if (member instanceof VariableTree v && !v.getModifiers().getFlags().contains(Modifier.STATIC)) {
                    fields++;
                }
                if (member instanceof BlockTree) {
                    wrong("a block that is no method", member);
                }
            }
            check.due("fields of " + tree.getSimpleName(), fields <= MOST_FIELDS);
            boolean isTop = getCurrentPath().getParentPath().getLeaf() == unit;
            if (!isTop && !(getCurrentPath().getParentPath().getLeaf() instanceof ClassTree)) {
                wrong("a class in a method", tree);
            }
            if (!isTop && !tree.getModifiers().getFlags().contains(Modifier.STATIC)) {
                wrong("a class inside that is not static", tree);
            }
            return super.visitClass(tree, none);
        }

        @Override
        public Void visitMethod(MethodTree tree, Void none) {
            if (tree.getParameters().size() > MOST_PARAMETERS) {
                wrong("too many parameters", tree);
            }
            Element e = trees.getElement(getCurrentPath());
            method = nameOf(e);
            calls.putIfAbsent(method, new TreeSet<>());
            // Rows are made in constructors, and used again: no call makes an object.
            makes = e.getKind() == ElementKind.CONSTRUCTOR;
            super.visitMethod(tree, none);
            makes = true;
            method = "";
            return null;
        }

        @Override
        public Void visitMethodInvocation(MethodInvocationTree tree, Void none) {
            ExecutableElement called = (ExecutableElement) trees.getElement(getCurrentPath());
            if (isOwn(called)) {
                called(called);
            } else if (called.getKind() == ElementKind.METHOD
                    && !LIBRARY.contains(called.getEnclosingElement().getSimpleName() + "." + called.getSimpleName())) {
                wrong("not of the library: " + called, tree);
            }
            return super.visitMethodInvocation(tree, none);
        }

        @Override
        public Void visitNewClass(NewClassTree tree, Void none) {
            Element made = trees.getElement(getCurrentPath());
            if (!makes || !isOwn(made) || tree.getClassBody() != null) {
                wrong("an object is made", tree);
            }
            called(made);
            return super.visitNewClass(tree, none);
        }

        private void called(Element e) {
            if (!method.isEmpty()) {
                calls.get(method).add(nameOf(e));
            }
        }

        @Override
        public Void visitNewArray(NewArrayTree tree, Void none) {
            if (!makes) {
                wrong("an array is made", tree);
            }
            return super.visitNewArray(tree, none);
        }

        @Override
        public Void visitVariable(VariableTree tree, Void none) {
            TypeMirror type = trees.getTypeMirror(getCurrentPath());
            Set<Modifier> flags = tree.getModifiers().getFlags();
            if (flags.contains(Modifier.STATIC) && !flags.contains(Modifier.FINAL)) {
                wrong("static, and not final", tree);
            }
            if (flags.contains(Modifier.STATIC) && type.getKind() == TypeKind.ARRAY
                    && (!(tree.getInitializer() instanceof NewArrayTree made) || made.getInitializers() == null)) {
                wrong("a static array that is not written out", tree);
            }
            if (!isAllowed(type)) {
                wrong("not of the types: " + type, tree);
            }
            return super.visitVariable(tree, none);
        }

        private boolean isAllowed(TypeMirror type) {
            if (type.getKind() == TypeKind.ARRAY) {
                TypeMirror of = ((ArrayType) type).getComponentType();
                return of.getKind().isPrimitive() || of.toString().startsWith("SprayedLetters.");
            }
            return type.getKind().isPrimitive() || type.toString().startsWith("SprayedLetters.")
                    || type.toString().equals("java.lang.String");
        }

        @Override
        public Void visitBinary(BinaryTree tree, Void none) {
            for (Tree side : List.of(tree.getLeftOperand(), tree.getRightOperand())) {
                if (typeOf(side).toString().equals("java.lang.String")) {
                    wrong("texts are joined or looked at by a sign", tree);
                }
            }
            divides(tree.getKind() == Tree.Kind.DIVIDE || tree.getKind() == Tree.Kind.REMAINDER, tree.getRightOperand());
            return super.visitBinary(tree, none);
        }

        @Override
        public Void visitCompoundAssignment(CompoundAssignmentTree tree, Void none) {
            divides(tree.getKind() == Tree.Kind.DIVIDE_ASSIGNMENT || tree.getKind() == Tree.Kind.REMAINDER_ASSIGNMENT,
                    tree.getExpression());
            return super.visitCompoundAssignment(tree, none);
        }

        /** The divisors that there are: each of them stands behind a test that it is above 0, or is a number. */
        private void divides(boolean does, Tree by) {
            if (does && !Set.of("2", "100", "nodes", "(nodes - 1)", "round").contains(by.toString())) {
                wrong("a new divisor " + by + ", to be looked at", by);
            }
        }

        @Override
        public Void visitLambdaExpression(LambdaExpressionTree tree, Void none) {
            wrong("a lambda", tree);
            return null;
        }

        @Override
        public Void visitMemberReference(MemberReferenceTree tree, Void none) {
            wrong("a method reference", tree);
            return null;
        }

        @Override
        public Void visitThrow(ThrowTree tree, Void none) {
            wrong("throw", tree);
            return null;
        }

        @Override
        public Void visitTry(TryTree tree, Void none) {
            wrong("try", tree);
            return null;
        }

        @Override
        public Void visitSynchronized(SynchronizedTree tree, Void none) {
            wrong("synchronized", tree);
            return null;
        }

        @Override
        public Void visitAssert(AssertTree tree, Void none) {
            wrong("assert", tree);
            return null;
        }
    }
}
