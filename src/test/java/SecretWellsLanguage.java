import com.sun.source.tree.*;
import com.sun.source.util.JavacTask;
import com.sun.source.util.SourcePositions;
import com.sun.source.util.TreePath;
import com.sun.source.util.TreePathScanner;
import com.sun.source.util.TreeScanner;
import com.sun.source.util.Trees;
import java.io.File;
import java.util.ArrayList;
import java.util.Arrays;
import java.util.HashSet;
import java.util.List;
import java.util.Map;
import java.util.Set;
import java.util.TreeMap;
import java.util.TreeSet;
import javax.lang.model.element.Element;
import javax.lang.model.element.ExecutableElement;
import javax.lang.model.element.Modifier;
import javax.lang.model.element.TypeElement;
import javax.lang.model.type.ArrayType;
import javax.lang.model.type.TypeKind;
import javax.lang.model.type.TypeMirror;
import javax.tools.JavaCompiler;
import javax.tools.StandardJavaFileManager;
import javax.tools.ToolProvider;

/**
 * The rules of LANGUAGE.md over the compiler's own tree of the class, as strictly as the class can keep them: where a
 * rule would leave more (lists, recursion, casts), this asks for what the class does without. Each complaint begins with
 * the rule's number. A first argument is another file to look at.
 */
public final class SecretWellsLanguage {
    private static final int MOST_PARAMETERS = 7;
    private static final int MOST_LINES = 60;
    private static final int MOST_DEEP = 8;
    private static final int MOST_CLASSES = 12;
    private static final int MOST_FIELDS = 20;
    private static final Set<String> LIBRARY = Set.of("String.length", "String.charAt", "String.isEmpty", "String.equals",
        "String.indexOf", "String.substring", "String.toCharArray", "System.arraycopy", "Arrays.copyOf",
        "Arrays.copyOfRange", "Arrays.fill");
    /** Of these all static functions may be used but those whose name ends in Exact. */
    private static final Set<String> NUMBERS = Set.of("Integer", "Long", "Math");
    private static final Set<Tree.Kind> RULED_OUT = Set.of(Tree.Kind.THROW, Tree.Kind.TRY, Tree.Kind.CATCH,
        Tree.Kind.SYNCHRONIZED, Tree.Kind.ASSERT, Tree.Kind.LAMBDA_EXPRESSION, Tree.Kind.MEMBER_REFERENCE,
        Tree.Kind.DOUBLE_LITERAL, Tree.Kind.FLOAT_LITERAL, Tree.Kind.SWITCH_EXPRESSION, Tree.Kind.YIELD);
    private static int wrong = 0;

    public static void main(String[] args) throws Exception {
        File file = new File(args.length > 0 ? args[0] : "src/main/java/SecretWells.java");
        JavaCompiler compiler = ToolProvider.getSystemJavaCompiler();
        try (StandardJavaFileManager files = compiler.getStandardFileManager(null, null, null)) {
            JavacTask task = (JavacTask) compiler.getTask(null, files, null, List.of("-proc:none", "-Xlint:none"), null,
                files.getJavaFileObjects(file));
            CompilationUnitTree unit = task.parse().iterator().next();
            task.analyze();
            Look look = new Look(Trees.instance(task), unit);
            look.scan(unit, null);
            look.whole();
        }
        System.out.println(wrong == 0 ? "the language is kept" : wrong + " things are outside the language");
        if (wrong != 0) {
            System.exit(1);
        }
    }

    private static final class Look extends TreePathScanner<Void, Void> {
        private final Trees trees;
        private final SourcePositions places;
        private final CompilationUnitTree unit;
        private final Map<String, Set<String>> calls = new TreeMap<>();
        private final Set<String> openNames = new TreeSet<>();
        private final Set<String> hiddenNames = new TreeSet<>();
        private int classes = 0;

        Look(Trees trees, CompilationUnitTree unit) {
            this.trees = trees;
            this.unit = unit;
            places = trees.getSourcePositions();
        }

        private void check(boolean isSo, int rule, Tree tree, String what) {
            if (!isSo) {
                wrong++;
                System.out.println("rule " + rule + ", line " + line(places.getStartPosition(unit, tree)) + ": " + what);
            }
        }

        private long line(long at) {
            return at < 0 ? 0 : unit.getLineMap().getLineNumber(at);
        }

        private Element element() {
            return trees.getElement(getCurrentPath());
        }

        private TypeMirror type(Tree tree) {
            return trees.getTypeMirror(new TreePath(getCurrentPath(), tree));
        }

        private static boolean isOwn(Element e) {
            Element at = e;
            while (at != null && !(at instanceof TypeElement t && t.getQualifiedName().contentEquals("SecretWells"))) {
                at = at.getEnclosingElement();
            }
            return at != null;
        }

        /** When all has been seen. */
        void whole() {
            check(unit.getPackageName() == null, 1, unit, "it has a package");
            check(unit.getTypeDecls().size() == 1, 1, unit, "it has not one class");
            check(classes <= MOST_CLASSES, 11, unit, classes + " classes");
            Set<String> both = new TreeSet<>(openNames);
            both.retainAll(hiddenNames);
            check(both.isEmpty(), 1, unit, "private methods with the names of public ones: " + both);
            for (String open : calls.keySet()) {
                List<String> way = deepest(open, new HashSet<>());
                check(way.size() <= MOST_DEEP, 11, unit, "calls go too deep: " + way);
            }
        }

        private List<String> deepest(String from, Set<String> open) {
            List<String> best = new ArrayList<>();
            if (!open.add(from)) {
                check(false, 8, unit, from + " calls itself");
                return best;
            }
            for (String to : calls.getOrDefault(from, Set.of())) {
                List<String> way = deepest(to, open);
                best = way.size() > best.size() ? way : best;
            }
            open.remove(from);
            List<String> whole = new ArrayList<>(List.of(from));
            whole.addAll(best);
            return whole;
        }

        @Override
        public Void scan(Tree tree, Void none) {
            if (tree != null) {
                check(!RULED_OUT.contains(tree.getKind()), 6, tree, tree.getKind().toString());
            }
            return super.scan(tree, none);
        }

        // ---- classes, fields, methods

        @Override
        public Void visitImport(ImportTree tree, Void none) {
            String name = tree.getQualifiedIdentifier().toString();
            check(!tree.isStatic() && Set.of("java.util.Arrays", "java.util.ArrayList", "java.util.List").contains(name), 4,
                tree, "it imports " + name);
            return super.visitImport(tree, none);
        }

        @Override
        public Void visitClass(ClassTree tree, Void none) {
            classes++;
            boolean isOuter = getCurrentPath().getParentPath().getLeaf() == unit;
            Set<Modifier> how = tree.getModifiers().getFlags();
            boolean isInside = getCurrentPath().getParentPath().getLeaf() instanceof ClassTree;
            check(isOuter || isInside && how.contains(Modifier.STATIC) && !how.contains(Modifier.PUBLIC)
                && !how.contains(Modifier.PROTECTED), 2, tree, tree.getSimpleName() + " is not a static class inside");
            int fields = 0;
            for (Tree member : tree.getMembers()) {
                boolean isBlock = member instanceof BlockTree;
                check(!isBlock, 5, member, "a block that is no method's");
                if (member instanceof VariableTree v && !v.getModifiers().getFlags().contains(Modifier.STATIC)) {
                    fields++;
                }
            }
            check(fields <= MOST_FIELDS, 11, tree, fields + " fields");
            return super.visitClass(tree, none);
        }

        @Override
        public Void visitVariable(VariableTree tree, Void none) {
            Element e = element();
            if (e != null) {
                check(isLent(e.asType()), 3, tree, e.asType() + " " + tree.getName());
            }
            Set<Modifier> how = tree.getModifiers().getFlags();
            if (how.contains(Modifier.STATIC)) {
                check(how.contains(Modifier.FINAL) && e != null && isConstant(e.asType()) && tree.getInitializer() != null, 5,
                    tree, "static " + tree.getName());
            }
            boolean isField = getCurrentPath().getParentPath().getLeaf() instanceof ClassTree;
            boolean isOuters = isField && getCurrentPath().getParentPath().getParentPath().getLeaf() == unit;
            check(!isOuters || how.contains(Modifier.PRIVATE) || tree.getName().contentEquals("NONE"), 1, tree,
                tree.getName() + " can be seen");
            return super.visitVariable(tree, none);
        }

        /** Which types the class does with. */
        private static boolean isLent(TypeMirror type) {
            if (type.getKind().isPrimitive()) {
                return type.getKind() != TypeKind.DOUBLE && type.getKind() != TypeKind.FLOAT;
            }
            if (type instanceof ArrayType row) {
                return row.getComponentType().getKind().isPrimitive() && isLent(row.getComponentType());
            }
            return type.toString().equals("java.lang.String") || type.toString().startsWith("SecretWells");
        }

        private static boolean isConstant(TypeMirror type) {
            Set<String> constants = Set.of("int", "long", "boolean", "char", "java.lang.String", "int[]", "long[]", "char[]",
                "byte[]");
            return constants.contains(type.toString());
        }

        @Override
        public Void visitMethod(MethodTree tree, Void none) {
            String name = tree.getName().toString();
            Set<Modifier> how = tree.getModifiers().getFlags();
            check(tree.getParameters().size() <= MOST_PARAMETERS, 11, tree, name + " has too many parameters");
            check(tree.getThrows().isEmpty(), 6, tree, name + " throws");
            check(!how.contains(Modifier.NATIVE) && !how.contains(Modifier.SYNCHRONIZED), 6, tree, name + ": " + how);
            long last = line(places.getEndPosition(unit, tree));
            long lines = last == 0 ? 0 : last - line(places.getStartPosition(unit, tree)) + 1;
            check(lines <= MOST_LINES, 11, tree, name + " has " + lines + " lines");
            boolean isOuters = getCurrentPath().getParentPath().getParentPath().getLeaf() == unit;
            (isOuters && how.contains(Modifier.PUBLIC) ? openNames : hiddenNames).add(name);
            openNames.remove("<init>");
            check(!isOuters || how.contains(Modifier.PUBLIC) || how.contains(Modifier.PRIVATE), 1, tree, name + " can be seen");
            calls.computeIfAbsent(nameOf(element()), key -> new TreeSet<>());
            return super.visitMethod(tree, none);
        }

        private static String nameOf(Element e) {
            return e.getEnclosingElement().getSimpleName() + "." + e;
        }

        private MethodTree methodAround() {
            for (Tree tree : getCurrentPath()) {
                if (tree instanceof MethodTree m) {
                    return m;
                }
            }
            return null;
        }

        // ---- what is called and made

        @Override
        public Void visitMethodInvocation(MethodInvocationTree tree, Void none) {
            Element e = trees.getElement(new TreePath(getCurrentPath(), tree.getMethodSelect()));
            if (e instanceof ExecutableElement called && !tree.toString().startsWith("super(")) {
                if (isOwn(called)) {
                    MethodTree from = methodAround();
                    check(from != null, 12, tree, "called for a field: " + tree);
                    if (from != null) {
                        Element caller = trees.getElement(trees.getPath(unit, from));
                        calls.computeIfAbsent(nameOf(caller), key -> new TreeSet<>()).add(nameOf(called));
                    }
                } else {
                    checkLibrary(tree, called);
                }
            }
            return super.visitMethodInvocation(tree, none);
        }

        private void checkLibrary(Tree tree, ExecutableElement called) {
            String holder = called.getEnclosingElement().getSimpleName().toString();
            String name = called.getSimpleName().toString();
            boolean isNumbers = NUMBERS.contains(holder) && called.getModifiers().contains(Modifier.STATIC)
                && !name.endsWith("Exact");
            check(isNumbers || LIBRARY.contains(holder + "." + name), 4, tree, holder + "." + name);
        }

        @Override
        public Void visitNewClass(NewClassTree tree, Void none) {
            check(tree.getClassBody() == null, 2, tree, "a class without a name");
            checkMade(tree);
            return super.visitNewClass(tree, none);
        }

        @Override
        public Void visitNewArray(NewArrayTree tree, Void none) {
            checkMade(tree);
            return super.visitNewArray(tree, none);
        }

        /** What the room holds is counted by objects alone, if no call makes one. */
        private void checkMade(Tree tree) {
            MethodTree around = methodAround();
            check(around == null || around.getName().contentEquals("<init>"), 12, tree, "made in a call: " + tree);
        }

        // ---- what is worked out

        @Override
        public Void visitBinary(BinaryTree tree, Void none) {
            TypeMirror left = type(tree.getLeftOperand());
            TypeMirror right = type(tree.getRightOperand());
            boolean areNumbers = left != null && right != null && left.getKind().isPrimitive() && right.getKind().isPrimitive();
            check(areNumbers, 10, tree, "of what are no numbers: " + tree);
            boolean isDivision = tree.getKind() == Tree.Kind.DIVIDE || tree.getKind() == Tree.Kind.REMAINDER;
            check(!isDivision || isTested(tree.getRightOperand()), 7, tree, "a divisor is not looked at: " + tree);
            return super.visitBinary(tree, none);
        }

        @Override
        public Void visitCompoundAssignment(CompoundAssignmentTree tree, Void none) {
            TypeMirror left = type(tree.getVariable());
            check(left != null && left.getKind().isPrimitive(), 10, tree, "of what is no number: " + tree);
            boolean isDivision = tree.getKind() == Tree.Kind.DIVIDE_ASSIGNMENT || tree.getKind() == Tree.Kind.REMAINDER_ASSIGNMENT;
            check(!isDivision || isTested(tree.getExpression()), 7, tree, "a divisor is not looked at: " + tree);
            return super.visitCompoundAssignment(tree, none);
        }

        /** A constant, or something that the same method compares. */
        private boolean isTested(ExpressionTree divisor) {
            String name = divisor.toString();
            boolean isConstant = name.matches("[1-9]\\d*") || name.matches("[A-Z_]+");
            MethodTree around = methodAround();
            if (isConstant || around == null) {
                return isConstant;
            }
            List<String> compared = new ArrayList<>();
            new TreeScanner<Void, Void>() {
                @Override
                public Void visitBinary(BinaryTree tree, Void none) {
                    if (isComparison(tree.getKind())) {
                        compared.add(tree.getLeftOperand().toString());
                        compared.add(tree.getRightOperand().toString());
                    }
                    return super.visitBinary(tree, none);
                }
            }.scan(around, null);
            return compared.contains(name);
        }

        private static boolean isComparison(Tree.Kind kind) {
            return Arrays.asList(Tree.Kind.LESS_THAN, Tree.Kind.LESS_THAN_EQUAL, Tree.Kind.GREATER_THAN,
                Tree.Kind.GREATER_THAN_EQUAL, Tree.Kind.EQUAL_TO, Tree.Kind.NOT_EQUAL_TO).contains(kind);
        }

        @Override
        public Void visitTypeCast(TypeCastTree tree, Void none) {
            TypeMirror to = type(tree.getType());
            check(to != null && to.getKind().isPrimitive(), 6, tree, "a cast: " + tree);
            return super.visitTypeCast(tree, none);
        }

        @Override
        public Void visitLiteral(LiteralTree tree, Void none) {
            if (tree.getValue() instanceof String text) {
                check(text.chars().allMatch(c -> c >= 1 && c <= 127), 4, tree, "signs of a constant");
            }
            return super.visitLiteral(tree, none);
        }

        // ---- loops

        @Override
        public Void visitForLoop(ForLoopTree tree, Void none) {
            checkLoop(tree, tree.getCondition());
            check(!tree.getUpdate().isEmpty(), 9, tree, "a for that counts nothing");
            return super.visitForLoop(tree, none);
        }

        @Override
        public Void visitWhileLoop(WhileLoopTree tree, Void none) {
            checkLoop(tree, tree.getCondition());
            return super.visitWhileLoop(tree, none);
        }

        @Override
        public Void visitDoWhileLoop(DoWhileLoopTree tree, Void none) {
            checkLoop(tree, tree.getCondition());
            return super.visitDoWhileLoop(tree, none);
        }

        /** Each has a counter that its own lines change, against a bound that must hold for it to go on. */
        private void checkLoop(Tree loop, ExpressionTree condition) {
            Set<String> counters = new HashSet<>();
            addCounters(condition, counters);
            Set<String> changed = new HashSet<>();
            new TreeScanner<Void, Void>() {
                @Override
                public Void visitUnary(UnaryTree tree, Void none) {
                    changed.add(tree.getExpression().toString());
                    return super.visitUnary(tree, none);
                }

                @Override
                public Void visitCompoundAssignment(CompoundAssignmentTree tree, Void none) {
                    changed.add(tree.getVariable().toString());
                    return super.visitCompoundAssignment(tree, none);
                }
            }.scan(loop, null);
            counters.retainAll(changed);
            check(!counters.isEmpty(), 9, loop, "a loop without a bound: " + condition);
        }

        private static void addCounters(ExpressionTree condition, Set<String> counters) {
            if (condition instanceof ParenthesizedTree inside) {
                addCounters(inside.getExpression(), counters);
            }
            if (condition instanceof BinaryTree both && both.getKind() == Tree.Kind.CONDITIONAL_AND) {
                addCounters(both.getLeftOperand(), counters);
                addCounters(both.getRightOperand(), counters);
            }
            boolean isBound = condition instanceof BinaryTree b && isComparison(b.getKind())
                && b.getKind() != Tree.Kind.EQUAL_TO && b.getKind() != Tree.Kind.NOT_EQUAL_TO;
            if (isBound) {
                counters.add(((BinaryTree) condition).getLeftOperand().toString());
            }
        }
    }
}
