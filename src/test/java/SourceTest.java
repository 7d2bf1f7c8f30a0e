import com.sun.source.tree.BinaryTree;
import com.sun.source.tree.ClassTree;
import com.sun.source.tree.CompilationUnitTree;
import com.sun.source.tree.ExpressionTree;
import com.sun.source.tree.ForLoopTree;
import com.sun.source.tree.IfTree;
import com.sun.source.tree.LiteralTree;
import com.sun.source.tree.MethodInvocationTree;
import com.sun.source.tree.MethodTree;
import com.sun.source.tree.NewClassTree;
import com.sun.source.tree.Tree;
import com.sun.source.tree.TypeCastTree;
import com.sun.source.tree.VariableTree;
import com.sun.source.tree.WhileLoopTree;
import com.sun.source.util.JavacTask;
import com.sun.source.util.SourcePositions;
import com.sun.source.util.TreePath;
import com.sun.source.util.TreePathScanner;
import com.sun.source.util.Trees;
import java.nio.file.Files;
import java.nio.file.Path;
import java.util.ArrayDeque;
import java.util.Deque;
import java.util.EnumSet;
import java.util.HashMap;
import java.util.HashSet;
import java.util.List;
import java.util.Map;
import java.util.Set;
import java.util.TreeSet;
import javax.lang.model.element.Element;
import javax.lang.model.element.Modifier;
import javax.lang.model.type.ArrayType;
import javax.lang.model.type.TypeKind;
import javax.lang.model.type.TypeMirror;
import javax.tools.JavaCompiler;
import javax.tools.StandardJavaFileManager;
import javax.tools.ToolProvider;

/**
 * The rules of LANGUAGE.md that can be looked up in the source, over the tree that javac makes of it. Where the
 * class needs less than a rule allows (it has no recursion, no lists, no doubles), the test allows less, too.
 */
public final class SourceTest {
    private static final int MOST_DEEP = 8, MOST_LINES = 60, MOST_NUMBERS = 7, MOST_CLASSES = 12, MOST_FIELDS = 20;

    private static final Set<Tree.Kind> RULED_OUT = EnumSet.of(Tree.Kind.THROW, Tree.Kind.TRY, Tree.Kind.CATCH,
        Tree.Kind.SYNCHRONIZED, Tree.Kind.ASSERT, Tree.Kind.LAMBDA_EXPRESSION, Tree.Kind.MEMBER_REFERENCE,
        Tree.Kind.PACKAGE, Tree.Kind.ANNOTATION, Tree.Kind.DOUBLE_LITERAL, Tree.Kind.FLOAT_LITERAL,
        Tree.Kind.INSTANCE_OF, Tree.Kind.SWITCH_EXPRESSION);

    /** What of the library the class uses; all of it stands in rule 4. */
    private static final Set<String> LIBRARY = Set.of("java.lang.Object.<init>", "java.lang.String.length",
        "java.lang.String.charAt", "java.lang.System.arraycopy", "java.util.Arrays.fill", "java.lang.Integer.bitCount",
        "java.lang.Math.max", "java.lang.Math.min");

    private static int wrong = 0;

    public static void main(String[] args) throws Exception {
        Path file = Path.of(args[0]);
        signs(Files.readString(file));
        JavaCompiler compiler = ToolProvider.getSystemJavaCompiler();
        try (StandardJavaFileManager files = compiler.getStandardFileManager(null, null, null)) {
            JavacTask task = (JavacTask) compiler.getTask(null, files, null, List.of("-proc:none"), null,
                files.getJavaFileObjects(file));
            Iterable<? extends CompilationUnitTree> units = task.parse();
            task.analyze();
            Looker looker = new Looker(Trees.instance(task));
            for (CompilationUnitTree unit : units) {
                looker.scan(unit, null);
            }
            check(looker.classes.size() <= MOST_CLASSES, "11: at most twelve classes: " + looker.classes);
            check(looker.classes.size() > 1 && looker.calls.size() > 34, "the source was looked through");
            depths(looker.calls);
        }
        System.out.println(wrong == 0 ? "the source keeps to the rules" : wrong + " places are outside the rules");
        if (wrong != 0) {
            System.exit(1);
        }
    }

    private static void check(boolean so, String what) {
        if (!so) {
            wrong++;
            System.out.println("not so: rule " + what);
        }
    }

    private static void signs(String source) {
        for (int i = 0; i < source.length(); i++) {
            check(source.charAt(i) < 128, "4: signs are below 128: at " + i);
        }
    }

    /** How deep calls go, the public one being the first; a ring of calls has no depth. */
    private static void depths(Map<String, Set<String>> calls) {
        Map<String, Integer> known = new HashMap<>();
        int deepest = 0;
        for (String method : calls.keySet()) {
            deepest = Math.max(deepest, depth(method, calls, known, new ArrayDeque<>()));
        }
        check(deepest > 1 && deepest <= MOST_DEEP, "11: calls go at most eight deep, not " + deepest);
    }

    private static int depth(String method, Map<String, Set<String>> calls, Map<String, Integer> known,
            Deque<String> open) {
        if (open.contains(method)) {
            check(false, "8: a ring of calls: " + open);
            return 0;
        }
        if (!known.containsKey(method)) {
            open.push(method);
            int below = 0;
            for (String called : calls.getOrDefault(method, Set.of())) {
                below = Math.max(below, depth(called, calls, known, open));
            }
            open.pop();
            known.put(method, below + 1);
        }
        return known.get(method);
    }

    private static final class Looker extends TreePathScanner<Void, Void> {
        final Set<String> classes = new TreeSet<>();
        final Map<String, Set<String>> calls = new HashMap<>();
        private final Trees trees;
        private final SourcePositions places;
        private String method = "";
        private boolean making = true;

        Looker(Trees trees) {
            this.trees = trees;
            places = trees.getSourcePositions();
        }

        private String at(Tree tree) {
            CompilationUnitTree unit = getCurrentPath().getCompilationUnit();
            return " (line " + unit.getLineMap().getLineNumber(places.getStartPosition(unit, tree)) + ")";
        }

        private Element element(Tree tree) {
            return trees.getElement(new TreePath(getCurrentPath(), tree));
        }

        private TypeMirror type(Tree tree) {
            return trees.getTypeMirror(new TreePath(getCurrentPath(), tree));
        }

        private static boolean own(String name) {
            return name.equals("RopeLaw") || name.startsWith("RopeLaw.");
        }

        @Override
        public Void scan(Tree tree, Void nothing) {
            if (tree != null && RULED_OUT.contains(tree.getKind())) {
                check(false, "2, 3, 6: without " + tree.getKind() + ": " + tree);
            }
            return super.scan(tree, nothing);
        }

        @Override
        public Void visitCompilationUnit(CompilationUnitTree unit, Void nothing) {
            check(unit.getTypeDecls().size() == 1, "0: one class in the file");
            unit.getImports().forEach(i -> check(i.getQualifiedIdentifier().toString().equals("java.util.Arrays")
                && !i.isStatic(), "4: " + i));
            return super.visitCompilationUnit(unit, nothing);
        }

        @Override
        public Void visitClass(ClassTree tree, Void nothing) {
            Tree around = getCurrentPath().getParentPath().getLeaf();
            boolean outer = around instanceof CompilationUnitTree;
            Set<Modifier> flags = tree.getModifiers().getFlags();
            check(outer || around instanceof ClassTree, "2: no local or anonymous class" + at(tree));
            check(outer || flags.contains(Modifier.STATIC), "2: a class inside is static" + at(tree));
            check(flags.contains(Modifier.FINAL), "1, 12: nothing overrides" + at(tree));
            check(tree.getExtendsClause() == null && tree.getImplementsClause().isEmpty(), "2: " + tree.getSimpleName());
            classes.add(tree.getSimpleName().toString());
            int fields = 0;
            for (Tree member : tree.getMembers()) {
                check(member.getKind() != Tree.Kind.BLOCK, "5: no block that initialises" + at(member));
                fields += member instanceof VariableTree v && !v.getModifiers().getFlags().contains(Modifier.STATIC)
                    ? 1 : 0;
            }
            check(fields <= MOST_FIELDS, "11: some twenty fields: " + tree.getSimpleName());
            return super.visitClass(tree, nothing);
        }

        @Override
        public Void visitMethod(MethodTree tree, Void nothing) {
            String before = method;
            boolean made = making;
            method = nameOf(trees.getElement(getCurrentPath()));
            making = tree.getReturnType() == null;
            calls.computeIfAbsent(method, m -> new HashSet<>());
            check(tree.getParameters().size() <= MOST_NUMBERS, "11: at most seven parameters: " + method);
            check(lines(tree) <= MOST_LINES, "11: some sixty lines: " + method);
            check(tree.getThrows().isEmpty(), "6: nothing is thrown: " + method);
            super.visitMethod(tree, nothing);
            method = before;
            making = made;
            return null;
        }

        private long lines(MethodTree tree) {
            CompilationUnitTree unit = getCurrentPath().getCompilationUnit();
            long end = places.getEndPosition(unit, tree);
            return end < 0 ? 1 : unit.getLineMap().getLineNumber(end)
                - unit.getLineMap().getLineNumber(places.getStartPosition(unit, tree)) + 1;
        }

        private static String nameOf(Element e) {
            return e.getEnclosingElement() + "." + e;
        }

        @Override
        public Void visitMethodInvocation(MethodInvocationTree tree, Void nothing) {
            called(element(tree.getMethodSelect()), tree);
            return super.visitMethodInvocation(tree, nothing);
        }

        @Override
        public Void visitNewClass(NewClassTree tree, Void nothing) {
            check(own(type(tree).toString()) && tree.getClassBody() == null, "3: makes its own alone" + at(tree));
            check(making, "12: objects are made with the object alone" + at(tree));
            called(trees.getElement(getCurrentPath()), tree);
            return super.visitNewClass(tree, nothing);
        }

        @Override
        public Void visitNewArray(com.sun.source.tree.NewArrayTree tree, Void nothing) {
            check(making, "12: arrays are made with the object alone" + at(tree));
            tree.getDimensions().forEach(d -> check(d instanceof LiteralTree || constant(d), "7: its length" + at(tree)));
            check(tree.getDimensions().size() == 1, "3: one dimension" + at(tree));
            return super.visitNewArray(tree, nothing);
        }

        /** A name of capitals, or a sum of such a one and a figure, is known to be no less than 0. */
        private static boolean constant(ExpressionTree tree) {
            return tree.toString().matches("[A-Z_]+( \\+ [0-9]+)?");
        }

        private void called(Element e, Tree tree) {
            String owner = e.getEnclosingElement().toString();
            if (own(owner)) {
                calls.computeIfAbsent(method, m -> new HashSet<>()).add(nameOf(e));
            } else {
                String name = owner + "." + e.getSimpleName();
                check(LIBRARY.contains(name), "4: " + name + at(tree));
            }
        }

        @Override
        public Void visitVariable(VariableTree tree, Void nothing) {
            TypeMirror type = trees.getTypeMirror(getCurrentPath());
            check(allowed(type), "3: " + type + " " + tree.getName() + at(tree));
            Set<Modifier> flags = tree.getModifiers().getFlags();
            if (flags.contains(Modifier.STATIC)) {
                check(flags.contains(Modifier.FINAL) && type.getKind().isPrimitive(),
                    "5: a static field is a constant" + at(tree));
            }
            return super.visitVariable(tree, nothing);
        }

        private static boolean allowed(TypeMirror type) {
            if (type.getKind() == TypeKind.ARRAY) {
                TypeMirror part = ((ArrayType) type).getComponentType();
                return part.getKind() != TypeKind.ARRAY && allowed(part);
            }
            boolean number = type.getKind().isPrimitive() && type.getKind() != TypeKind.DOUBLE
                && type.getKind() != TypeKind.FLOAT;
            return number || own(type.toString()) || type.toString().equals("java.lang.String");
        }

        @Override
        public Void visitTypeCast(TypeCastTree tree, Void nothing) {
            check(type(tree.getType()).getKind().isPrimitive(), "6: casts are among numbers" + at(tree));
            return super.visitTypeCast(tree, nothing);
        }

        @Override
        public Void visitBinary(BinaryTree tree, Void nothing) {
            check(trees.getTypeMirror(getCurrentPath()).getKind().isPrimitive(), "10: no texts are joined" + at(tree));
            if (tree.getKind() == Tree.Kind.DIVIDE || tree.getKind() == Tree.Kind.REMAINDER) {
                divisor(tree.getRightOperand());
            }
            if (tree.getKind() == Tree.Kind.EQUAL_TO || tree.getKind() == Tree.Kind.NOT_EQUAL_TO) {
                check(type(tree.getLeftOperand()).getKind().isPrimitive(), "6: == is between numbers" + at(tree));
            }
            return super.visitBinary(tree, nothing);
        }

        @Override
        public Void visitCompoundAssignment(com.sun.source.tree.CompoundAssignmentTree tree, Void nothing) {
            boolean divides = tree.getKind() == Tree.Kind.DIVIDE_ASSIGNMENT
                || tree.getKind() == Tree.Kind.REMAINDER_ASSIGNMENT;
            check(!divides, "7: a divisor" + at(tree));
            return super.visitCompoundAssignment(tree, nothing);
        }

        /** A divisor is a number that is not 0, or one that a condition around it looks at. */
        private void divisor(ExpressionTree tree) {
            boolean safe = tree instanceof LiteralTree && !tree.toString().matches("0L?");
            for (TreePath p = getCurrentPath(); p != null && !safe; p = p.getParentPath()) {
                String looked = p.getLeaf() instanceof IfTree i ? i.getCondition().toString()
                    : p.getLeaf() instanceof ForLoopTree f ? String.valueOf(f.getCondition()) : "";
                safe = looked.matches(".*\\b" + tree + " (!= 0|> 0)\\b.*");
            }
            check(safe, "7: a divisor is looked at: " + tree + at(tree));
        }

        @Override
        public Void visitForLoop(ForLoopTree tree, Void nothing) {
            check(tree.getCondition() != null && tree.getCondition().toString().matches(".*[<>].*"),
                "9: a counter against a bound" + at(tree));
            return super.visitForLoop(tree, nothing);
        }

        @Override
        public Void visitWhileLoop(WhileLoopTree tree, Void nothing) {
            check(tree.getCondition().toString().matches(".*[<>].*"), "9: a counter against a bound" + at(tree));
            check(tree.getStatement().toString().matches("(?s).*\\w(\\+\\+|--);.*"), "9: a counter counts" + at(tree));
            return super.visitWhileLoop(tree, nothing);
        }
    }
}
