import com.sun.source.tree.AnnotationTree;
import com.sun.source.tree.AssertTree;
import com.sun.source.tree.BinaryTree;
import com.sun.source.tree.BlockTree;
import com.sun.source.tree.BreakTree;
import com.sun.source.tree.ClassTree;
import com.sun.source.tree.CompilationUnitTree;
import com.sun.source.tree.CompoundAssignmentTree;
import com.sun.source.tree.DoWhileLoopTree;
import com.sun.source.tree.EnhancedForLoopTree;
import com.sun.source.tree.ExpressionTree;
import com.sun.source.tree.ForLoopTree;
import com.sun.source.tree.IdentifierTree;
import com.sun.source.tree.LambdaExpressionTree;
import com.sun.source.tree.MemberReferenceTree;
import com.sun.source.tree.MemberSelectTree;
import com.sun.source.tree.MethodInvocationTree;
import com.sun.source.tree.MethodTree;
import com.sun.source.tree.NewArrayTree;
import com.sun.source.tree.NewClassTree;
import com.sun.source.tree.SynchronizedTree;
import com.sun.source.tree.ThrowTree;
import com.sun.source.tree.Tree;
import com.sun.source.tree.TryTree;
import com.sun.source.tree.TypeCastTree;
import com.sun.source.tree.VariableTree;
import com.sun.source.tree.WhileLoopTree;
import com.sun.source.util.JavacTask;
import com.sun.source.util.TreePath;
import com.sun.source.util.TreePathScanner;
import com.sun.source.util.Trees;
import java.io.IOException;
import java.nio.file.Files;
import java.nio.file.Path;
import java.util.ArrayList;
import java.util.HashSet;
import java.util.LinkedHashMap;
import java.util.List;
import java.util.Map;
import java.util.Set;
import java.util.TreeSet;
import javax.lang.model.element.Element;
import javax.lang.model.element.ElementKind;
import javax.lang.model.element.ExecutableElement;
import javax.lang.model.element.Modifier;
import javax.lang.model.type.ArrayType;
import javax.lang.model.type.TypeKind;
import javax.lang.model.type.TypeMirror;
import javax.tools.JavaCompiler;
import javax.tools.StandardJavaFileManager;
import javax.tools.ToolProvider;

/**
 * The rules of ../shared/LANGUAGE.md that can be seen in the source, as the compiler reads it; each answer bears its
 * rule's number. What the class does not use at all (texts, lists, enums, doubles) is not allowed here either.
 */
public final class LanguageTest {
    private static final Path SOURCE = Path.of("src/main/java/TreatyHouse.java");
    private static final int MOST_PARAMETERS = 7;
    private static final int MOST_LINES = 60;
    private static final int MOST_CLASSES = 12;
    private static final int MOST_FIELDS = 20;
    private static final int DEEPEST = 8;
    private static final Check check = new Check();

    public static void main(String[] args) throws IOException {
        String text = Files.readString(SOURCE);
        check.due("3: characters 0 to 255 alone", text.chars().allMatch(c -> c < 256), true);
        JavaCompiler compiler = ToolProvider.getSystemJavaCompiler();
        try (StandardJavaFileManager files = compiler.getStandardFileManager(null, null, null)) {
            JavacTask task = (JavacTask) compiler.getTask(null, files, null, List.of("--release", "17"), null,
                files.getJavaFileObjects(SOURCE));
            Scan scan = new Scan(Trees.instance(task), text);
            for (CompilationUnitTree unit : task.parse()) {
                task.analyze();
                check.due("1: one file without a package", unit.getPackageName() == null, true);
                check.due("4: imports", unit.getImports().size(), 0);
                check.due("1: one class in the file", unit.getTypeDecls().size(), 1);
                scan.scan(unit, null);
            }
            scan.end();
        }
        check.end();
    }

    private static final class Scan extends TreePathScanner<Void, Void> {
        final Trees trees;
        final String text;
        final Map<Element, Set<Element>> calls = new LinkedHashMap<>();
        final Set<String> publicNames = new TreeSet<>();
        final List<ExecutableElement> hidden = new ArrayList<>();
        int classes;
        int loops;

        Scan(Trees trees, String text) {
            this.trees = trees;
            this.text = text;
        }

        void banned(int rule, Tree tree) {
            check.due(rule + ": " + tree.toString().split("\n")[0], true, false);
        }

        Element here() {
            return trees.getElement(getCurrentPath());
        }

        long lineOf(long position) {
            return text.substring(0, (int) position).chars().filter(c -> c == '\n').count() + 1;
        }

        long startOf(Tree tree) {
            return trees.getSourcePositions().getStartPosition(getCurrentPath().getCompilationUnit(), tree);
        }

        long endOf(Tree tree) {
            return trees.getSourcePositions().getEndPosition(getCurrentPath().getCompilationUnit(), tree);
        }

        // Rules 1, 2, 5 and 11: classes, their fields and methods

        @Override
        public Void visitClass(ClassTree tree, Void none) {
            classes++;
            Element element = here();
            Set<Modifier> modifiers = tree.getModifiers().getFlags();
            boolean isOuter = getCurrentPath().getParentPath().getLeaf() instanceof CompilationUnitTree;
            boolean isInClass = getCurrentPath().getParentPath().getLeaf() instanceof ClassTree;
            check.due("2: " + element + " stands in a class", isOuter || isInClass, true);
            if (isOuter) {
                check.due("1: it is public and final", modifiers.equals(Set.of(Modifier.PUBLIC, Modifier.FINAL)), true);
            } else {
                check.due("2: " + element + " is static", modifiers.contains(Modifier.STATIC), true);
                check.due("1: " + element + " is not to be seen", modifiers.contains(Modifier.PUBLIC)
                    || modifiers.contains(Modifier.PROTECTED), false);
            }
            int fields = 0;
            for (Tree member : tree.getMembers()) {
                boolean isField = member instanceof VariableTree variable
                    && !variable.getModifiers().getFlags().contains(Modifier.STATIC);
                fields += isField ? 1 : 0;
                check.due("5: " + element + " has an initialiser block", member instanceof BlockTree, false);
            }
            check.due("11: fields of " + element, fields <= MOST_FIELDS, true);
            return super.visitClass(tree, none);
        }

        @Override
        public Void visitMethod(MethodTree tree, Void none) {
            ExecutableElement method = (ExecutableElement) here();
            String name = method.getEnclosingElement() + "." + method;
            calls.put(method, new HashSet<>());
            check.due("11: parameters of " + name, tree.getParameters().size() <= MOST_PARAMETERS, true);
            if (startOf(tree) < endOf(tree)) {
                long lines = lineOf(endOf(tree)) - lineOf(startOf(tree)) + 1;
                check.due("11: lines of " + name, lines <= MOST_LINES, true);
            }
            check.due("6: throws of " + name, tree.getThrows().size(), 0);
            check.due("6: " + name, Set.of("equals", "hashCode", "toString").contains(tree.getName().toString()), false);
            if (method.getModifiers().contains(Modifier.PUBLIC)) {
                publicNames.add(tree.getName().toString());
            } else if (method.getKind() == ElementKind.METHOD) {
                hidden.add(method);
            }
            boolean isLasting = method.getModifiers().contains(Modifier.NATIVE)
                || method.getModifiers().contains(Modifier.SYNCHRONIZED);
            check.due("6: " + name + " is native or synchronized", isLasting, false);
            return super.visitMethod(tree, none);
        }

        @Override
        public Void visitVariable(VariableTree tree, Void none) {
            Element element = here();
            check.due("3: the type of " + element, isAllowed(element.asType()), true);
            if (element.getKind() == ElementKind.FIELD && element.getModifiers().contains(Modifier.STATIC)) {
                check.due("5: " + element + " is final", element.getModifiers().contains(Modifier.FINAL), true);
                check.due("5: " + element + " is a number", element.asType().getKind().isPrimitive(), true);
                check.due("5: " + element + " has a value", tree.getInitializer() != null, true);
            }
            boolean isOuter = element.getEnclosingElement().toString().equals("TreatyHouse");
            if (element.getKind() == ElementKind.FIELD && isOuter && !element.getSimpleName().contentEquals("NONE")) {
                check.due("1: " + element + " is private", element.getModifiers().contains(Modifier.PRIVATE), true);
            }
            return super.visitVariable(tree, none);
        }

        // Rule 3: int, long, boolean, own classes, and rows of these of one dimension

        boolean isAllowed(TypeMirror type) {
            if (type.getKind() == TypeKind.ARRAY) {
                TypeMirror of = ((ArrayType) type).getComponentType();
                return of.getKind() != TypeKind.ARRAY && isAllowed(of);
            }
            boolean isNumber = type.getKind() == TypeKind.INT || type.getKind() == TypeKind.LONG;
            return isNumber || type.getKind() == TypeKind.BOOLEAN || type.toString().startsWith("TreatyHouse");
        }

        @Override
        public Void visitBinary(BinaryTree tree, Void none) {
            divides(tree, tree.getRightOperand());
            return super.visitBinary(tree, none);
        }

        @Override
        public Void visitCompoundAssignment(CompoundAssignmentTree tree, Void none) {
            divides(tree, tree.getExpression());
            return super.visitCompoundAssignment(tree, none);
        }

        /** Rule 7: what divides is a number that stands there, and is not 0. */
        void divides(Tree tree, ExpressionTree divisor) {
            boolean isDivision = switch (tree.getKind()) {
                case DIVIDE, REMAINDER, DIVIDE_ASSIGNMENT, REMAINDER_ASSIGNMENT -> true;
                default -> false;
            };
            check.due("7: " + tree, isDivision && !divisor.toString().matches("[1-9]\\d*"), false);
        }

        /** Rules 6 and 7: casts of numbers alone. */
        @Override
        public Void visitTypeCast(TypeCastTree tree, Void none) {
            check.due("7: " + tree, tree.getType().getKind() == Tree.Kind.PRIMITIVE_TYPE, true);
            return super.visitTypeCast(tree, none);
        }

        // Rule 4: System.arraycopy and the length of rows alone

        boolean isOwn(Element element) {
            for (Element at = element; at != null; at = at.getEnclosingElement()) {
                if (at.toString().equals("TreatyHouse")) {
                    return true;
                }
            }
            return false;
        }

        void used(Element element) {
            if (element == null || isOwn(element)) {
                return;
            }
            String name = element.getEnclosingElement() + "." + element.getSimpleName();
            Set<String> allowed = Set.of("java.lang.System", "java.lang.System.arraycopy", "java.lang.Object.<init>");
            boolean isLength = name.endsWith(".length") && element.getKind() == ElementKind.FIELD;
            check.due("4: " + name, allowed.contains(name) || isLength, true);
        }

        @Override
        public Void visitIdentifier(IdentifierTree tree, Void none) {
            used(here());
            return super.visitIdentifier(tree, none);
        }

        @Override
        public Void visitMemberSelect(MemberSelectTree tree, Void none) {
            used(here());
            return super.visitMemberSelect(tree, none);
        }

        @Override
        public Void visitMethodInvocation(MethodInvocationTree tree, Void none) {
            called(here());
            return super.visitMethodInvocation(tree, none);
        }

        // Rules 2 and 6: what must not stand there at all

        @Override
        public Void visitLambdaExpression(LambdaExpressionTree tree, Void none) {
            banned(2, tree);
            return super.visitLambdaExpression(tree, none);
        }

        @Override
        public Void visitMemberReference(MemberReferenceTree tree, Void none) {
            banned(2, tree);
            return super.visitMemberReference(tree, none);
        }

        @Override
        public Void visitAnnotation(AnnotationTree tree, Void none) {
            banned(4, tree);
            return super.visitAnnotation(tree, none);
        }

        @Override
        public Void visitThrow(ThrowTree tree, Void none) {
            banned(6, tree);
            return super.visitThrow(tree, none);
        }

        @Override
        public Void visitTry(TryTree tree, Void none) {
            banned(6, tree);
            return super.visitTry(tree, none);
        }

        @Override
        public Void visitSynchronized(SynchronizedTree tree, Void none) {
            banned(6, tree);
            return super.visitSynchronized(tree, none);
        }

        @Override
        public Void visitAssert(AssertTree tree, Void none) {
            banned(6, tree);
            return super.visitAssert(tree, none);
        }

        // Rules 9 and 12: loops have an end, and nothing is made in them

        @Override
        public Void visitForLoop(ForLoopTree tree, Void none) {
            check.due("9: a loop has a condition", tree.getCondition() != null, true);
            check.due("9: a loop counts", tree.getUpdate().size() > 0, true);
            return inLoop(() -> super.visitForLoop(tree, none));
        }

        @Override
        public Void visitWhileLoop(WhileLoopTree tree, Void none) {
            check.due("9: " + tree.getCondition(), tree.getCondition().toString().contains("null"), true);
            return inLoop(() -> super.visitWhileLoop(tree, none));
        }

        @Override
        public Void visitDoWhileLoop(DoWhileLoopTree tree, Void none) {
            banned(9, tree);
            return super.visitDoWhileLoop(tree, none);
        }

        @Override
        public Void visitEnhancedForLoop(EnhancedForLoopTree tree, Void none) {
            return inLoop(() -> super.visitEnhancedForLoop(tree, none));
        }

        Void inLoop(Runnable body) {
            loops++;
            body.run();
            loops--;
            return null;
        }

        @Override
        public Void visitBreak(BreakTree tree, Void none) {
            check.due("10: a break to a label", tree.getLabel() == null, true);
            return super.visitBreak(tree, none);
        }

        @Override
        public Void visitNewClass(NewClassTree tree, Void none) {
            check.due("2: " + tree + " has a body", tree.getClassBody() != null, false);
            check.due("12: " + tree + " is made in a loop", loops > 0, false);
            called(here());
            return super.visitNewClass(tree, none);
        }

        @Override
        public Void visitNewArray(NewArrayTree tree, Void none) {
            check.due("12: " + tree + " is made in a loop", loops > 0, false);
            return super.visitNewArray(tree, none);
        }

        // Rules 8 and 11: which method calls which

        void called(Element element) {
            for (TreePath path = getCurrentPath(); path != null; path = path.getParentPath()) {
                if (path.getLeaf() instanceof MethodTree) {
                    calls.get(trees.getElement(path)).add(element);
                }
            }
        }

        /** How many calls stand open at most, this one with them; a method that calls itself never comes to an end. */
        int depthOf(Element method, int open) {
            if (open > DEEPEST) {
                return open;
            }
            int deepest = open;
            for (Element next : calls.getOrDefault(method, Set.of())) {
                deepest = Math.max(deepest, depthOf(next, open + 1));
            }
            return deepest;
        }

        void end() {
            for (Element method : calls.keySet()) {
                check.due("8 and 11: calls from " + method + " on, at most " + DEEPEST + " deep",
                    depthOf(method, 1) <= DEEPEST, true);
            }
            for (ExecutableElement method : hidden) {
                check.due("1: " + method + " has the name of a public one",
                    publicNames.contains(method.getSimpleName().toString()), false);
            }
            check.due("11: classes", classes <= MOST_CLASSES, true);
            check.due("the source was read", publicNames.size() > 30 && calls.size() > 60, true);
        }
    }
}
