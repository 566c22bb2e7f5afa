import com.sun.source.tree.AssertTree;
import com.sun.source.tree.BinaryTree;
import com.sun.source.tree.BlockTree;
import com.sun.source.tree.CatchTree;
import com.sun.source.tree.ClassTree;
import com.sun.source.tree.CompilationUnitTree;
import com.sun.source.tree.DoWhileLoopTree;
import com.sun.source.tree.ForLoopTree;
import com.sun.source.tree.IdentifierTree;
import com.sun.source.tree.ImportTree;
import com.sun.source.tree.InstanceOfTree;
import com.sun.source.tree.LambdaExpressionTree;
import com.sun.source.tree.LiteralTree;
import com.sun.source.tree.MemberReferenceTree;
import com.sun.source.tree.MemberSelectTree;
import com.sun.source.tree.MethodInvocationTree;
import com.sun.source.tree.MethodTree;
import com.sun.source.tree.NewArrayTree;
import com.sun.source.tree.NewClassTree;
import com.sun.source.tree.SynchronizedTree;
import com.sun.source.tree.ThrowTree;
import com.sun.source.tree.Tree;
import com.sun.source.tree.TryTree;
import com.sun.source.tree.TypeCastTree;
import com.sun.source.tree.VariableTree;
import com.sun.source.tree.WhileLoopTree;
import com.sun.source.util.JavacTask;
import com.sun.source.util.SourcePositions;
import com.sun.source.util.TreePathScanner;
import com.sun.source.util.Trees;
import java.io.IOException;
import java.nio.file.Files;
import java.nio.file.Path;
import java.util.ArrayList;
import java.util.List;
import java.util.Map;
import java.util.Set;
import java.util.TreeMap;
import java.util.TreeSet;
import javax.lang.model.element.Element;
import javax.lang.model.element.ElementKind;
import javax.lang.model.element.ExecutableElement;
import javax.lang.model.element.Modifier;
import javax.tools.JavaCompiler;
import javax.tools.StandardJavaFileManager;
import javax.tools.ToolProvider;

/**
 * The rules of ../shared/LANGUAGE.md, as far as the text of the class shows them. It is narrower than the rules where
 * the class needs less (no try, no while, no cast, no text but an exception's).
 */
public final class FormTest {
    private static final Checks CHECKS = new Checks("FormTest");
    private static final Path FILE = Path.of("src/main/java/OneTime.java");
    private static final String EXCEPTION = "NoSuchElementException";
    private static final Set<String> LIBRARY = Set.of("Math.abs", "Math.min", "Math.max", "Math.floorDiv", "Math.floorMod",
        "Integer.bitCount");
    private static final Set<String> FOREIGN_FIELDS = Set.of("Integer.MAX_VALUE");
    private static final Set<String> TYPES = Set.of("int", "boolean", "int[]", "boolean[]", "int[][]");

    private final Trees trees;
    private final CompilationUnitTree unit;
    private final Set<String> classes = new TreeSet<>();
    private final Set<String> faceNames = new TreeSet<>();
    private final Map<String, Set<String>> calls = new TreeMap<>();

    private FormTest(Trees trees, CompilationUnitTree unit) {
        this.trees = trees;
        this.unit = unit;
    }

    public static void main(String[] args) throws IOException {
        JavaCompiler compiler = ToolProvider.getSystemJavaCompiler();
        try (StandardJavaFileManager files = compiler.getStandardFileManager(null, null, null)) {
            JavacTask task = (JavacTask) compiler.getTask(null, files, null, List.of("-proc:none"), null,
                files.getJavaFileObjects(FILE));
            CompilationUnitTree unit = task.parse().iterator().next();
            task.analyze();
            new FormTest(Trees.instance(task), unit).ask();
        }
        CHECKS.finish();
    }

    private void ask() throws IOException {
        signs();
        CHECKS.due("rule 1: no package line", unit.getPackage() == null, true);
        for (ImportTree imported : unit.getImports()) {
            rule(4, imported, imported.getQualifiedIdentifier().toString().equals("java.util." + EXCEPTION));
        }
        CHECKS.due("rule 1: one class in the file", unit.getTypeDecls().size(), 1);
        new Names().scan(unit, null);
        CHECKS.due("rule 11: classes", classes.size() <= 12, true);
        new Rules().scan(unit, null);
        depth();
    }

    private static void signs() throws IOException {
        String text = Files.readString(FILE);
        CHECKS.due("rule 4: signs are 1 to 127", text.chars().allMatch(sign -> sign >= 1 && sign <= 127), true);
    }

    private void rule(int number, Tree tree, boolean kept) {
        SourcePositions positions = trees.getSourcePositions();
        long line = unit.getLineMap().getLineNumber(positions.getStartPosition(unit, tree));
        CHECKS.due("rule " + number + ": line " + line + ": " + tree.toString().split("\n")[0], kept, true);
    }

    /** Calls that are no recursion go at most eight deep; what calls itself again is private and bears its depth. */
    private void depth() {
        Set<String> again = new TreeSet<>();
        for (String name : calls.keySet()) {
            if (reach(name).contains(name)) {
                again.add(name);
            }
        }
        CHECKS.due("rule 8: methods that call themselves: " + again,
            again.equals(Set.of("DelaySearch.place", "RoundSearch.goOn")), true);
        for (String name : calls.keySet()) {
            CHECKS.due("rule 11: calls below " + name, deepest(name, new ArrayList<>()) <= 8, true);
        }
    }

    private Set<String> reach(String name) {
        Set<String> seen = new TreeSet<>();
        List<String> open = new ArrayList<>(calls.get(name));
        while (!open.isEmpty()) {
            String next = open.remove(open.size() - 1);
            if (seen.add(next)) {
                open.addAll(calls.getOrDefault(next, Set.of()));
            }
        }
        return seen;
    }

    private int deepest(String name, List<String> above) {
        if (above.contains(name)) {
            return above.size();
        }
        List<String> now = new ArrayList<>(above);
        now.add(name);
        int deepest = now.size();
        for (String next : calls.getOrDefault(name, Set.of())) {
            deepest = Math.max(deepest, deepest(next, now));
        }
        return deepest;
    }

    private static String nameOf(Element member) {
        return member.getEnclosingElement().getSimpleName() + "." + member.getSimpleName();
    }

    /** The names of the classes and of the face, which the rules ask for. */
    private final class Names extends TreePathScanner<Void, Void> {
        @Override
        public Void visitClass(ClassTree tree, Void none) {
            classes.add(tree.getSimpleName().toString());
            return super.visitClass(tree, none);
        }

        @Override
        public Void visitMethod(MethodTree tree, Void none) {
            Element method = trees.getElement(getCurrentPath());
            if (method.getModifiers().contains(Modifier.PUBLIC)) {
                faceNames.add(tree.getName().toString());
            }
            return super.visitMethod(tree, none);
        }
    }

    /** Looks at each part of the class once. */
    private final class Rules extends TreePathScanner<Void, Void> {
        private ExecutableElement inside = null;

        private boolean isOwn(Element element) {
            return element != null && classes.contains(element.getSimpleName().toString());
        }

        private void refuse(int number, Tree tree) {
            rule(number, tree, false);
        }

        @Override
        public Void visitClass(ClassTree tree, Void none) {
            Element element = trees.getElement(getCurrentPath());
            boolean outer = tree.getSimpleName().contentEquals("OneTime");
            Set<Modifier> face = Set.of(Modifier.PUBLIC, Modifier.FINAL);
            Set<Modifier> within = Set.of(Modifier.PRIVATE, Modifier.STATIC, Modifier.FINAL);
            rule(1, tree, element.getModifiers().equals(outer ? face : within));
            rule(2, tree, element.getKind() == ElementKind.CLASS && (outer || isOwn(element.getEnclosingElement())));
            rule(2, tree, tree.getExtendsClause() == null && tree.getImplementsClause().isEmpty());
            int fields = 0;
            for (Tree member : tree.getMembers()) {
                rule(5, member, !(member instanceof BlockTree));
                boolean constant = member instanceof VariableTree field
                    && field.getModifiers().getFlags().contains(Modifier.STATIC);
                fields += member instanceof VariableTree && !constant ? 1 : 0;
            }
            rule(11, tree, fields <= 20);
            return super.visitClass(tree, none);
        }

        @Override
        public Void visitMethod(MethodTree tree, Void none) {
            ExecutableElement before = inside;
            inside = (ExecutableElement) trees.getElement(getCurrentPath());
            boolean open = inside.getModifiers().contains(Modifier.PUBLIC);
            rule(1, tree, open || !faceNames.contains(tree.getName().toString()) || isConstructor());
            rule(11, tree, tree.getParameters().size() <= 7);
            SourcePositions positions = trees.getSourcePositions();
            if (tree.getBody() != null && positions.getEndPosition(unit, tree) >= 0) {
                long from = unit.getLineMap().getLineNumber(positions.getStartPosition(unit, tree));
                long to = unit.getLineMap().getLineNumber(positions.getEndPosition(unit, tree));
                rule(11, tree, to - from < 60);
            }
            calls.putIfAbsent(nameOf(inside), new TreeSet<>());
            super.visitMethod(tree, none);
            inside = before;
            return null;
        }

        private boolean isConstructor() {
            return inside != null && inside.getKind() == ElementKind.CONSTRUCTOR;
        }

        @Override
        public Void visitVariable(VariableTree tree, Void none) {
            String type = tree.getType().toString();
            rule(3, tree, TYPES.contains(type) || classes.contains(type));
            Element element = trees.getElement(getCurrentPath());
            if (element.getModifiers().contains(Modifier.STATIC)) {
                rule(5, tree, element.getModifiers().contains(Modifier.FINAL) && type.equals("int"));
            }
            return super.visitVariable(tree, none);
        }

        @Override
        public Void visitMethodInvocation(MethodInvocationTree tree, Void none) {
            Element called = trees.getElement(getCurrentPath());
            boolean constructor = called.getKind() == ElementKind.CONSTRUCTOR;
            if (isOwn(called.getEnclosingElement())) {
                calls.computeIfAbsent(nameOf(inside), name -> new TreeSet<>()).add(nameOf(called));
            } else {
                rule(4, tree, constructor || LIBRARY.contains(nameOf(called)));
                boolean divides = called.getSimpleName().toString().startsWith("floor");
                rule(7, tree, !divides || isConstant(tree.getArguments().get(1)));
            }
            rule(12, tree, constructor || !isConstructor() || !isOwn(called.getEnclosingElement()));
            return super.visitMethodInvocation(tree, none);
        }

        @Override
        public Void visitMemberSelect(MemberSelectTree tree, Void none) {
            Element member = trees.getElement(getCurrentPath());
            if (member != null && member.getKind().isField() && !isOwn(member.getEnclosingElement())) {
                boolean length = member.getSimpleName().contentEquals("length");
                rule(4, tree, length || FOREIGN_FIELDS.contains(nameOf(member)));
            }
            return super.visitMemberSelect(tree, none);
        }

        /** Objects are made by constructors and in the fields' own lines alone, so that no call makes any. */
        @Override
        public Void visitNewClass(NewClassTree tree, Void none) {
            String made = tree.getIdentifier().toString();
            boolean exception = made.equals(EXCEPTION) && inside != null && !isConstructor();
            boolean own = classes.contains(made) && tree.getClassBody() == null && (inside == null || isConstructor());
            rule(12, tree, exception || own);
            return super.visitNewClass(tree, none);
        }

        @Override
        public Void visitNewArray(NewArrayTree tree, Void none) {
            rule(12, tree, inside == null || isConstructor());
            return super.visitNewArray(tree, none);
        }

        /** Only where the document's face says so, with a written text. */
        @Override
        public Void visitThrow(ThrowTree tree, Void none) {
            boolean told = inside != null && inside.getModifiers().contains(Modifier.PUBLIC)
                && inside.getThrownTypes().toString().equals("java.util." + EXCEPTION);
            boolean written = tree.getExpression() instanceof NewClassTree made && made.getArguments().size() == 1
                && made.getArguments().get(0) instanceof LiteralTree;
            rule(6, tree, told && written);
            return super.visitThrow(tree, none);
        }

        @Override
        public Void visitForLoop(ForLoopTree tree, Void none) {
            rule(9, tree, tree.getCondition() != null && tree.getUpdate().size() == 1 && tree.getInitializer().size() == 1);
            return super.visitForLoop(tree, none);
        }

        @Override
        public Void visitBinary(BinaryTree tree, Void none) {
            if (tree.getKind() == Tree.Kind.DIVIDE || tree.getKind() == Tree.Kind.REMAINDER) {
                rule(7, tree, isConstant(tree.getRightOperand()));
            }
            return super.visitBinary(tree, none);
        }

        /** A divisor is a constant by its name, or a written number that is not 0. */
        private boolean isConstant(Tree divisor) {
            if (divisor instanceof LiteralTree number) {
                return !number.toString().equals("0");
            }
            return divisor instanceof IdentifierTree name && name.getName().toString().matches("[A-Z_]+");
        }

        @Override
        public Void visitLambdaExpression(LambdaExpressionTree tree, Void none) {
            refuse(2, tree);
            return null;
        }

        @Override
        public Void visitMemberReference(MemberReferenceTree tree, Void none) {
            refuse(2, tree);
            return null;
        }

        @Override
        public Void visitTry(TryTree tree, Void none) {
            refuse(6, tree);
            return null;
        }

        @Override
        public Void visitCatch(CatchTree tree, Void none) {
            refuse(6, tree);
            return null;
        }

        @Override
        public Void visitSynchronized(SynchronizedTree tree, Void none) {
            refuse(6, tree);
            return null;
        }

        @Override
        public Void visitAssert(AssertTree tree, Void none) {
            refuse(6, tree);
            return null;
        }

        @Override
        public Void visitInstanceOf(InstanceOfTree tree, Void none) {
            refuse(6, tree);
            return null;
        }

        @Override
        public Void visitTypeCast(TypeCastTree tree, Void none) {
            refuse(6, tree);
            return null;
        }

        @Override
        public Void visitWhileLoop(WhileLoopTree tree, Void none) {
            refuse(9, tree);
            return null;
        }

        @Override
        public Void visitDoWhileLoop(DoWhileLoopTree tree, Void none) {
            refuse(9, tree);
            return null;
        }
    }
}
