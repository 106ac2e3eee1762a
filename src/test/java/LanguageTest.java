import com.sun.source.tree.AssertTree;
import com.sun.source.tree.BinaryTree;
import com.sun.source.tree.CatchTree;
import com.sun.source.tree.ClassTree;
import com.sun.source.tree.CompilationUnitTree;
import com.sun.source.tree.ExpressionTree;
import com.sun.source.tree.ForLoopTree;
import com.sun.source.tree.ImportTree;
import com.sun.source.tree.LambdaExpressionTree;
import com.sun.source.tree.LiteralTree;
import com.sun.source.tree.MemberReferenceTree;
import com.sun.source.tree.MethodInvocationTree;
import com.sun.source.tree.MethodTree;
import com.sun.source.tree.NewArrayTree;
import com.sun.source.tree.NewClassTree;
import com.sun.source.tree.SynchronizedTree;
import com.sun.source.tree.ThrowTree;
import com.sun.source.tree.Tree;
import com.sun.source.tree.TryTree;
import com.sun.source.tree.TypeCastTree;
import com.sun.source.tree.VariableTree;
import com.sun.source.tree.WhileLoopTree;
import com.sun.source.util.JavacTask;
import com.sun.source.util.TreePath;
import com.sun.source.util.TreePathScanner;
import com.sun.source.util.Trees;
import java.io.File;
import java.nio.file.Files;
import java.nio.file.Path;
import java.util.HashMap;
import java.util.HashSet;
import java.util.List;
import java.util.Map;
import java.util.Set;
import java.util.TreeSet;
import javax.lang.model.element.Element;
import javax.lang.model.element.ElementKind;
import javax.lang.model.element.Modifier;
import javax.lang.model.element.TypeElement;
import javax.lang.model.element.VariableElement;
import javax.lang.model.type.TypeMirror;
import javax.tools.JavaCompiler;
import javax.tools.StandardJavaFileManager;
import javax.tools.ToolProvider;

/**
 * The rules of LANGUAGE.md as far as they can be read off the class's tree, as javac makes it; the numbers are the rules'.
 * It runs where .ci/run runs it: in the project's root. (Rule 1 is FaceTest's; rule 7 is tried by RandomRunsTest and
 * RefusalsTest: what the machine throws ends them.)
 */
public final class LanguageTest {
    private static final String FILE = "src/main/java/DotObjects.java";
    /** Of the library's methods that rule 4 lists, those that the class has a use for. */
    private static final Set<String> LIBRARY = Set.of("java.lang.System.arraycopy", "java.util.Arrays.fill", "java.lang.Integer.bitCount",
        "java.lang.Math.max", "java.lang.Math.min", "java.lang.Math.floorMod", "java.lang.Object.<init>");
    private static final int MOST_PARAMETERS = 7, MOST_METHOD_LINES = 60, MOST_DEEP = 8, MOST_CLASSES = 12, MOST_FIELDS = 20;

    private final Due due = new Due("LanguageTest");
    private final Map<String, Set<String>> calls = new HashMap<>();
    private final Set<String> classes = new HashSet<>();
    private CompilationUnitTree unit;
    private Trees trees;

    public static void main(String[] args) throws Exception {
        LanguageTest test = new LanguageTest();
        test.checkText(Files.readString(Path.of(FILE)));
        test.checkTree();
        test.due.close();
    }

    /** 4: signs of 1 to 127 alone, and no tabs. */
    private void checkText(String text) {
        for (char c : text.toCharArray()) {
            if (c > 126 || c < 32 && c != '\n') due.isTrue("4: plain signs alone, not " + (int) c, false);
        }
    }

    private void checkTree() throws Exception {
        JavaCompiler compiler = ToolProvider.getSystemJavaCompiler();
        StandardJavaFileManager files = compiler.getStandardFileManager(null, null, null);
        JavacTask task = (JavacTask) compiler.getTask(null, files, null, List.of("-proc:none"), null, files.getJavaFileObjects(new File(FILE)));
        unit = task.parse().iterator().next();
        task.analyze();
        trees = Trees.instance(task);
        due.isTrue("no package line", unit.getPackageName() == null);
        due.is("one class in the file", unit.getTypeDecls().size(), 1);
        new Looker().scan(unit, null);
        due.isTrue("11: at most twelve classes, not " + classes, classes.size() <= MOST_CLASSES);
        due.isTrue("methods were found", calls.size() > 60);
        for (String method : new TreeSet<>(calls.keySet())) {
            due.isTrue("8, 11: calls behind " + method + " end, and go at most eight deep", depth(method, 0) <= MOST_DEEP);
        }
    }

    /** How many calls stand open at once; beyond the bound it is not looked further, which ends a recursion too. */
    private int depth(String method, int above) {
        int deepest = above + 1;
        if (above > MOST_DEEP) return deepest;
        for (String called : calls.getOrDefault(method, Set.of())) deepest = Math.max(deepest, depth(called, above + 1));
        return deepest;
    }

    private final class Looker extends TreePathScanner<Void, Void> {
        private String method = "";

        private void never(String what, Tree tree) {
            due.isTrue(what + " on line " + unit.getLineMap().getLineNumber(trees.getSourcePositions().getStartPosition(unit, tree)), false);
        }

        private Element element() {
            return trees.getElement(getCurrentPath());
        }

        private boolean isInMethod() {
            for (TreePath p = getCurrentPath(); p != null; p = p.getParentPath()) if (p.getLeaf() instanceof MethodTree) return true;
            return false;
        }

        @Override
        public Void visitImport(ImportTree tree, Void v) {
            due.is("4: import", tree.getQualifiedIdentifier().toString(), "java.util.Arrays");
            return super.visitImport(tree, v);
        }

        @Override
        public Void visitClass(ClassTree tree, Void v) {
            String name = tree.getSimpleName().toString();
            classes.add(name);
            boolean isOuter = getCurrentPath().getParentPath().getLeaf() == unit;
            due.isTrue("2: " + name + " has a name, stands in no method, and is static", !name.isEmpty() && !isInMethod()
                && (isOuter || tree.getModifiers().getFlags().contains(Modifier.STATIC)));
            int fields = 0;
            for (Tree member : tree.getMembers()) {
                if (member.getKind() == Tree.Kind.BLOCK) never("5: no initialiser block", member);
                if (member instanceof VariableTree f && !f.getModifiers().getFlags().contains(Modifier.STATIC)) fields++;
            }
            due.isTrue("11: " + name + " has some twenty fields at most", fields <= MOST_FIELDS);
            return super.visitClass(tree, v);
        }

        @Override
        public Void visitMethod(MethodTree tree, Void v) {
            String outer = method;
            method = ((TypeElement) element().getEnclosingElement()).getQualifiedName() + "." + tree.getName();
            due.isTrue("one " + method + " alone, so that its calls are its own", calls.put(method, new HashSet<>()) == null);
            due.isTrue("11: " + method + " has at most seven parameters", tree.getParameters().size() <= MOST_PARAMETERS);
            long first = trees.getSourcePositions().getStartPosition(unit, tree), last = trees.getSourcePositions().getEndPosition(unit, tree);
            long lines = last < 0 ? 0 : unit.getLineMap().getLineNumber(last) - unit.getLineMap().getLineNumber(first) + 1;
            due.isTrue("11: " + method + " is short", lines <= MOST_METHOD_LINES);
            due.isTrue("6: " + method + " throws nothing", tree.getThrows().isEmpty());
            if (tree.getReturnType() != null) checkType(trees.getTypeMirror(new TreePath(getCurrentPath(), tree.getReturnType())), tree);
            super.visitMethod(tree, v);
            method = outer;
            return null;
        }

        @Override
        public Void visitVariable(VariableTree tree, Void v) {
            checkType(element().asType(), tree);
            if (element().getModifiers().contains(Modifier.STATIC)) {
                due.isTrue("5: static " + tree.getName() + " is a constant", ((VariableElement) element()).getConstantValue() != null);
            }
            return super.visitVariable(tree, v);
        }

        /** 3: of all that is allowed, the class uses whole numbers, booleans, rows of them, and its own classes. */
        private void checkType(TypeMirror type, Tree tree) {
            String name = type.toString();
            boolean isOwn = name.equals("DotObjects") || name.startsWith("DotObjects.");
            if (!isOwn && !name.matches("void|(int|long|boolean)(\\[\\])?|int\\[\\]\\[\\]")) never("3: not the type " + name, tree);
        }

        @Override
        public Void visitMethodInvocation(MethodInvocationTree tree, Void v) {
            noteCall(element(), tree);
            return super.visitMethodInvocation(tree, v);
        }

        private void noteCall(Element called, Tree tree) {
            String name = ((TypeElement) called.getEnclosingElement()).getQualifiedName() + "." + called.getSimpleName();
            if (name.startsWith("DotObjects")) calls.getOrDefault(method, new HashSet<>()).add(name);
            else if (!LIBRARY.contains(name)) never("4: not " + name, tree);
        }

        @Override
        public Void visitNewClass(NewClassTree tree, Void v) {
            checkMaking(tree);
            noteCall(element(), tree);
            return super.visitNewClass(tree, v);
        }

        @Override
        public Void visitNewArray(NewArrayTree tree, Void v) {
            checkMaking(tree);
            return super.visitNewArray(tree, v);
        }

        /** 12, and more: in this class no call makes an object, its constructors alone do. */
        private void checkMaking(Tree tree) {
            if (!method.isEmpty() && !method.endsWith(".<init>")) never("12: nothing is made by " + method, tree);
        }

        @Override
        public Void visitForLoop(ForLoopTree tree, Void v) {
            String update = tree.getUpdate().toString();
            String counter = update.replaceAll("\\W", "");
            if (!update.equals(counter + "++;") || !String.valueOf(tree.getCondition()).startsWith(counter + " < ")) {
                never("9: a loop counts up against a bound", tree);
            }
            return super.visitForLoop(tree, v);
        }

        @Override
        public Void visitWhileLoop(WhileLoopTree tree, Void v) {
            // The name ahead of a bound, which the loop counts up.
            String counter = tree.getCondition().toString().replaceAll("(?s)^\\((\\w+) < .*$", "$1");
            if (!tree.getStatement().toString().contains(counter + "++")) never("9: a loop counts up against a bound", tree);
            return super.visitWhileLoop(tree, v);
        }

        @Override
        public Void visitTypeCast(TypeCastTree tree, Void v) {
            due.is("6: casts are of numbers", tree.getType().toString().replace("long", "int"), "int");
            return super.visitTypeCast(tree, v);
        }

        @Override
        public Void visitBinary(BinaryTree tree, Void v) {
            boolean divides = tree.getKind() == Tree.Kind.DIVIDE || tree.getKind() == Tree.Kind.REMAINDER;
            if (divides) checkDivisor(tree.getRightOperand());
            return super.visitBinary(tree, v);
        }

        /** 7: by a constant that is not 0, or by what was looked at in the same line. */
        private void checkDivisor(ExpressionTree divisor) {
            Element it = trees.getElement(new TreePath(getCurrentPath(), divisor));
            Object constant = it instanceof VariableElement variable ? variable.getConstantValue() : null;
            if (constant != null) {
                due.isTrue("7: " + divisor + " is not 0", ((Number) constant).longValue() != 0);
                return;
            }
            String statement = getCurrentPath().getParentPath().getLeaf().toString();
            due.isTrue("7: " + divisor + " is looked at in " + statement, statement.contains(divisor + " > 0 ?"));
        }

        @Override
        public Void visitLiteral(LiteralTree tree, Void v) {
            if (tree.getKind() == Tree.Kind.NULL_LITERAL || tree.getKind() == Tree.Kind.STRING_LITERAL) never("neither null nor texts", tree);
            return super.visitLiteral(tree, v);
        }

        @Override
        public Void visitLambdaExpression(LambdaExpressionTree tree, Void v) {
            never("2: no lambda", tree);
            return null;
        }

        @Override
        public Void visitMemberReference(MemberReferenceTree tree, Void v) {
            never("2: no method reference", tree);
            return null;
        }

        @Override
        public Void visitThrow(ThrowTree tree, Void v) {
            never("6: no throw", tree);
            return null;
        }

        @Override
        public Void visitTry(TryTree tree, Void v) {
            never("6: no try", tree);
            return null;
        }

        @Override
        public Void visitCatch(CatchTree tree, Void v) {
            never("6: no catch", tree);
            return null;
        }

        @Override
        public Void visitSynchronized(SynchronizedTree tree, Void v) {
            never("6: no synchronized", tree);
            return null;
        }

        @Override
        public Void visitAssert(AssertTree tree, Void v) {
            never("6: no assert", tree);
            return null;
        }
    }
}
