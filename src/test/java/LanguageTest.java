import com.sun.source.tree.AnnotationTree;
import com.sun.source.tree.ArrayTypeTree;
import com.sun.source.tree.AssertTree;
import com.sun.source.tree.AssignmentTree;
import com.sun.source.tree.BinaryTree;
import com.sun.source.tree.BlockTree;
import com.sun.source.tree.ClassTree;
import com.sun.source.tree.CompilationUnitTree;
import com.sun.source.tree.CompoundAssignmentTree;
import com.sun.source.tree.DoWhileLoopTree;
import com.sun.source.tree.ExpressionStatementTree;
import com.sun.source.tree.ExpressionTree;
import com.sun.source.tree.ForLoopTree;
import com.sun.source.tree.IdentifierTree;
import com.sun.source.tree.ImportTree;
import com.sun.source.tree.InstanceOfTree;
import com.sun.source.tree.LambdaExpressionTree;
import com.sun.source.tree.LiteralTree;
import com.sun.source.tree.MemberReferenceTree;
import com.sun.source.tree.MemberSelectTree;
import com.sun.source.tree.MethodInvocationTree;
import com.sun.source.tree.MethodTree;
import com.sun.source.tree.NewArrayTree;
import com.sun.source.tree.NewClassTree;
import com.sun.source.tree.PackageTree;
import com.sun.source.tree.PrimitiveTypeTree;
import com.sun.source.tree.SynchronizedTree;
import com.sun.source.tree.ThrowTree;
import com.sun.source.tree.Tree;
import com.sun.source.tree.TryTree;
import com.sun.source.tree.TypeCastTree;
import com.sun.source.tree.UnaryTree;
import com.sun.source.tree.VariableTree;
import com.sun.source.tree.WhileLoopTree;
import com.sun.source.util.JavacTask;
import com.sun.source.util.SourcePositions;
import com.sun.source.util.TreePath;
import com.sun.source.util.TreePathScanner;
import com.sun.source.util.TreeScanner;
import com.sun.source.util.Trees;
import java.io.IOException;
import java.net.URI;
import java.nio.file.Files;
import java.nio.file.Path;
import java.util.ArrayList;
import java.util.HashMap;
import java.util.HashSet;
import java.util.List;
import java.util.Map;
import java.util.Set;
import java.util.TreeSet;
import javax.lang.model.element.Modifier;
import javax.lang.model.type.TypeKind;
import javax.tools.JavaCompiler;
import javax.tools.JavaFileObject;
import javax.tools.SimpleJavaFileObject;
import javax.tools.ToolProvider;

/**
 * The class keeps to the rules of LANGUAGE.md that can be seen in its text: 1 to
 * 6, 8 and 10 (11 follows from 3). Rule 7 is held by the tests that make calls.
 * Where the text alone does not tell, the test is stricter than the rule: it
 * takes no loop but a for that counts. Each rule is first tried on a small class
 * that breaks it, so that a rule the test is blind to does not pass unseen.
 */
public final class LanguageTest {
    private static final String SOURCE = "src/main/java/ModelCounter.java";
    private static final String NAME = "ModelCounter";
    private static final int MOST_PARAMETERS = 7;
    private static final int MOST_LINES = 60;
    private static final int DEEPEST = 6;
    private static final int MOST_FIELDS = 40;

    /** What the class declares; the rules are looked at by the Reading. */
    private static final class Names extends TreeScanner<Void, Void> {
        final Set<String> variables = new HashSet<>();
        final Set<String> arrays = new HashSet<>();
        final Set<String> arrayFields = new HashSet<>();
        final Set<String> constants = new HashSet<>();
        final Set<String> methods = new HashSet<>();
        final Set<String> visibleMethods = new HashSet<>();
        int fields = 0;

        @Override
        public Void visitClass(ClassTree tree, Void p) {
            for (Tree member : tree.getMembers()) {
                if (member instanceof VariableTree field) {
                    addField(field);
                } else if (member instanceof MethodTree method) {
                    methods.add(method.getName().toString());
                    if (!method.getModifiers().getFlags().contains(Modifier.PRIVATE)) {
                        visibleMethods.add(method.getName().toString());
                    }
                }
            }
            return super.visitClass(tree, p);
        }

        private void addField(VariableTree field) {
            if (field.getModifiers().getFlags().contains(Modifier.STATIC)) {
                constants.add(field.getName().toString());
            } else {
                fields++;
            }
            if (field.getType() instanceof ArrayTypeTree) {
                arrayFields.add(field.getName().toString());
            }
        }

        @Override
        public Void visitVariable(VariableTree tree, Void p) {
            variables.add(tree.getName().toString());
            if (tree.getType() instanceof ArrayTypeTree) {
                arrays.add(tree.getName().toString());
            }
            return super.visitVariable(tree, p);
        }
    }

    /** Finds what breaks a rule. */
    private static final class Reading extends TreePathScanner<Void, Void> {
        final Set<String> faults = new TreeSet<>();
        final Map<String, Set<String>> calls = new HashMap<>();
        final Names names;
        final CompilationUnitTree unit;
        final SourcePositions positions;

        Reading(CompilationUnitTree unit, SourcePositions positions, Names names) {
            this.unit = unit;
            this.positions = positions;
            this.names = names;
        }

        private long firstLine(Tree tree) {
            return unit.getLineMap().getLineNumber(positions.getStartPosition(unit, tree));
        }

        private long lastLine(Tree tree) {
            return unit.getLineMap().getLineNumber(positions.getEndPosition(unit, tree));
        }

        private void breaks(int rule, Tree tree, String told) {
            faults.add("rule " + rule + ": line " + firstLine(tree) + ": " + told);
        }

        private Tree parent() {
            return getCurrentPath().getParentPath().getLeaf();
        }

        private MethodTree method() {
            for (TreePath at = getCurrentPath(); at != null; at = at.getParentPath()) {
                if (at.getLeaf() instanceof MethodTree method) {
                    return method;
                }
            }
            return null;
        }

        private boolean isInLoop() {
            for (TreePath at = getCurrentPath(); at != null; at = at.getParentPath()) {
                switch (at.getLeaf().getKind()) {
                    case FOR_LOOP, ENHANCED_FOR_LOOP, WHILE_LOOP, DO_WHILE_LOOP -> {
                        return true;
                    }
                    default -> { }
                }
            }
            return false;
        }

        private static boolean isConstructor(MethodTree method) {
            return method != null && method.getName().contentEquals("<init>");
        }

        private boolean isArray(Tree tree) {
            return names.arrays.contains(plainName(tree));
        }

        // ---- Rule 1: one class

        @Override
        public Void visitCompilationUnit(CompilationUnitTree tree, Void p) {
            if (tree.getTypeDecls().size() != 1) {
                breaks(1, tree, tree.getTypeDecls().size() + " classes");
            }
            return super.visitCompilationUnit(tree, p);
        }

        @Override
        public Void visitPackage(PackageTree tree, Void p) {
            breaks(1, tree, "package");
            return null;
        }

        @Override
        public Void visitClass(ClassTree tree, Void p) {
            if (!(parent() instanceof CompilationUnitTree)) {
                breaks(1, tree, "nested class");
            }
            boolean isPlain = tree.getKind() == Tree.Kind.CLASS && tree.getSimpleName().contentEquals(NAME)
                    && tree.getExtendsClause() == null && tree.getImplementsClause().isEmpty()
                    && tree.getTypeParameters().isEmpty();
            if (!isPlain || !tree.getModifiers().getFlags().equals(Set.of(Modifier.PUBLIC, Modifier.FINAL))) {
                breaks(1, tree, "not the plain public final class " + NAME);
            }
            if (names.fields > MOST_FIELDS) {
                breaks(10, tree, names.fields + " fields");
            }
            return super.visitClass(tree, p);
        }

        // ---- Rules 2 and 3: types, and no library

        @Override
        public Void visitPrimitiveType(PrimitiveTypeTree tree, Void p) {
            TypeKind kind = tree.getPrimitiveTypeKind();
            if (kind == TypeKind.FLOAT || kind == TypeKind.DOUBLE) {
                breaks(2, tree, kind.toString());
            }
            return null;
        }

        @Override
        public Void visitArrayType(ArrayTypeTree tree, Void p) {
            if (!(tree.getType() instanceof PrimitiveTypeTree)) {
                breaks(2, tree, "array of " + tree.getType());
            }
            return super.visitArrayType(tree, p);
        }

        @Override
        public Void visitLiteral(LiteralTree tree, Void p) {
            switch (tree.getKind()) {
                case STRING_LITERAL, FLOAT_LITERAL, DOUBLE_LITERAL -> breaks(2, tree, tree.toString());
                case NULL_LITERAL -> breaks(4, tree, "null");
                default -> { }
            }
            return null;
        }

        @Override
        public Void visitNewClass(NewClassTree tree, Void p) {
            breaks(2, tree, "new object");
            return super.visitNewClass(tree, p);
        }

        @Override
        public Void visitImport(ImportTree tree, Void p) {
            breaks(3, tree, "import");
            return null;
        }

        @Override
        public Void visitAnnotation(AnnotationTree tree, Void p) {
            breaks(3, tree, "annotation");
            return null;
        }

        @Override
        public Void visitIdentifier(IdentifierTree tree, Void p) {
            String name = tree.getName().toString();
            if (!names.variables.contains(name) && !names.methods.contains(name) && !name.equals("this")) {
                breaks(3, tree, name + " is not of this class");
            }
            return null;
        }

        /** this.x is the class's own, and so is the length of an array; nothing else has a dot. */
        @Override
        public Void visitMemberSelect(MemberSelectTree tree, Void p) {
            String own = plainName(tree);
            boolean isLength = tree.getIdentifier().contentEquals("length") && isArray(tree.getExpression());
            if (!isLength && !names.variables.contains(own) && !names.methods.contains(own)) {
                breaks(3, tree, tree + " is not of this class");
            }
            return null;
        }

        // ---- Rule 4: arrays

        private boolean isMadeAtTheStart() {
            if (parent() instanceof VariableTree) {
                return getCurrentPath().getParentPath().getParentPath().getLeaf() instanceof ClassTree;
            }
            TreePath at = getCurrentPath().getParentPath();
            if (!(at.getLeaf() instanceof AssignmentTree set) || !names.arrayFields.contains(plainName(set.getVariable()))) {
                return false;
            }
            at = at.getParentPath();
            if (!(at.getLeaf() instanceof ExpressionStatementTree)) {
                return false;
            }
            at = at.getParentPath();
            return at.getLeaf() instanceof BlockTree && at.getParentPath().getLeaf() instanceof MethodTree method
                    && isConstructor(method);
        }

        private boolean hasPlainLength(NewArrayTree tree) {
            if (tree.getInitializers() != null || tree.getDimensions().size() != 1) {
                return false;
            }
            ExpressionTree length = tree.getDimensions().get(0);
            if (length instanceof LiteralTree literal) {
                return literal.getValue() instanceof Integer n && n >= 1;
            }
            return names.constants.contains(plainName(length));
        }

        @Override
        public Void visitNewArray(NewArrayTree tree, Void p) {
            if (!isMadeAtTheStart()) {
                breaks(4, tree, "array made elsewhere than in a field or the constructor's own lines");
            } else if (!hasPlainLength(tree)) {
                breaks(4, tree, "array whose length is no literal or constant of 1 or more");
            }
            if (isConstructor(method()) && calls.containsKey("<init>")) {
                breaks(4, tree, "array made after a call");
            }
            return super.visitNewArray(tree, p);
        }

        private void looksAtTarget(Tree target, boolean isNewArray) {
            if (!isArray(target)) {
                return;
            }
            if (names.arrayFields.contains(plainName(target)) && !(isConstructor(method()) && isNewArray)) {
                breaks(4, target, "array field assigned");
            }
            if (isInLoop()) {
                breaks(4, target, "array variable changed in a loop");
            }
        }

        @Override
        public Void visitAssignment(AssignmentTree tree, Void p) {
            looksAtTarget(tree.getVariable(), tree.getExpression() instanceof NewArrayTree);
            return super.visitAssignment(tree, p);
        }

        @Override
        public Void visitBinary(BinaryTree tree, Void p) {
            if (isArray(tree.getLeftOperand()) || isArray(tree.getRightOperand())) {
                breaks(4, tree, "array compared");
            }
            return super.visitBinary(tree, p);
        }

        // ---- Rule 5: static fields

        @Override
        public Void visitVariable(VariableTree tree, Void p) {
            if (tree.getType() == null) {
                breaks(2, tree, "a type that is not told");
            } else if (tree.getModifiers().getFlags().contains(Modifier.STATIC) && !isConstant(tree)) {
                breaks(5, tree, "static field that is no constant");
            }
            return super.visitVariable(tree, p);
        }

        private static boolean isConstant(VariableTree tree) {
            String type = tree.getType().toString();
            return tree.getModifiers().getFlags().contains(Modifier.FINAL)
                    && (type.equals("int") || type.equals("long"))
                    && tree.getInitializer() != null && !hasCall(tree.getInitializer());
        }

        private static boolean hasCall(Tree tree) {
            boolean[] found = {false};
            new TreeScanner<Void, Void>() {
                @Override
                public Void visitMethodInvocation(MethodInvocationTree call, Void p) {
                    found[0] = true;
                    return null;
                }
            }.scan(tree, null);
            return found[0];
        }

        @Override
        public Void visitBlock(BlockTree tree, Void p) {
            if (tree.isStatic()) {
                breaks(5, tree, "static initialiser");
            }
            return super.visitBlock(tree, p);
        }

        // ---- Rule 6: what is not used

        @Override
        public Void visitThrow(ThrowTree tree, Void p) {
            breaks(6, tree, "throw");
            return super.visitThrow(tree, p);
        }

        @Override
        public Void visitTry(TryTree tree, Void p) {
            breaks(6, tree, "try");
            return super.visitTry(tree, p);
        }

        @Override
        public Void visitSynchronized(SynchronizedTree tree, Void p) {
            breaks(6, tree, "synchronized");
            return super.visitSynchronized(tree, p);
        }

        @Override
        public Void visitAssert(AssertTree tree, Void p) {
            breaks(6, tree, "assert");
            return super.visitAssert(tree, p);
        }

        @Override
        public Void visitInstanceOf(InstanceOfTree tree, Void p) {
            breaks(6, tree, "instanceof");
            return super.visitInstanceOf(tree, p);
        }

        @Override
        public Void visitLambdaExpression(LambdaExpressionTree tree, Void p) {
            breaks(6, tree, "lambda");
            return super.visitLambdaExpression(tree, p);
        }

        @Override
        public Void visitMemberReference(MemberReferenceTree tree, Void p) {
            breaks(6, tree, "method reference");
            return super.visitMemberReference(tree, p);
        }

        @Override
        public Void visitTypeCast(TypeCastTree tree, Void p) {
            if (!(tree.getType() instanceof PrimitiveTypeTree)) {
                breaks(6, tree, "cast of a reference");
            }
            return super.visitTypeCast(tree, p);
        }

        // ---- Rule 8: loops; calls are looked at when all are known

        @Override
        public Void visitWhileLoop(WhileLoopTree tree, Void p) {
            breaks(8, tree, "while, whose end this test cannot see");
            return super.visitWhileLoop(tree, p);
        }

        @Override
        public Void visitDoWhileLoop(DoWhileLoopTree tree, Void p) {
            breaks(8, tree, "do, whose end this test cannot see");
            return super.visitDoWhileLoop(tree, p);
        }

        @Override
        public Void visitForLoop(ForLoopTree tree, Void p) {
            boolean ends = false;
            for (ExpressionStatementTree update : tree.getUpdate()) {
                ends = ends || counts(update.getExpression(), tree);
            }
            if (!ends) {
                breaks(8, tree, "for without a counter that goes up to a bound, or down to one");
            }
            return super.visitForLoop(tree, p);
        }

        private static boolean counts(ExpressionTree update, ForLoopTree loop) {
            if (!(update instanceof UnaryTree step)) {
                return false;
            }
            String counter = plainName(step.getExpression());
            boolean up = step.getKind() == Tree.Kind.POSTFIX_INCREMENT || step.getKind() == Tree.Kind.PREFIX_INCREMENT;
            return isBounded(loop.getCondition(), counter, up) && !changes(loop.getStatement(), counter);
        }

        private static boolean isBounded(Tree condition, String counter, boolean up) {
            if (!(condition instanceof BinaryTree test)) {
                return false;
            }
            if (test.getKind() == Tree.Kind.CONDITIONAL_AND) {
                return isBounded(test.getLeftOperand(), counter, up) || isBounded(test.getRightOperand(), counter, up);
            }
            // Against the greatest int <= never fails, nor does >= against the least.
            Tree.Kind due = up ? Tree.Kind.LESS_THAN : Tree.Kind.GREATER_THAN_EQUAL;
            boolean isSafeBound = up || test.getRightOperand().toString().equals("0");
            return test.getKind() == due && isSafeBound && plainName(test.getLeftOperand()).equals(counter);
        }

        private static boolean changes(Tree body, String name) {
            boolean[] found = {false};
            new TreeScanner<Void, Void>() {
                private void target(Tree tree) {
                    found[0] = found[0] || plainName(tree).equals(name);
                }

                @Override
                public Void visitAssignment(AssignmentTree tree, Void p) {
                    target(tree.getVariable());
                    return super.visitAssignment(tree, p);
                }

                @Override
                public Void visitCompoundAssignment(CompoundAssignmentTree tree, Void p) {
                    target(tree.getVariable());
                    return super.visitCompoundAssignment(tree, p);
                }

                @Override
                public Void visitUnary(UnaryTree tree, Void p) {
                    // Of the operators with one operand only ++ and -- change it.
                    if (tree.getKind().name().endsWith("CREMENT")) {
                        target(tree.getExpression());
                    }
                    return super.visitUnary(tree, p);
                }
            }.scan(body, null);
            return found[0];
        }

        // ---- Rules 1, 4 and 10: methods and calls

        @Override
        public Void visitMethod(MethodTree tree, Void p) {
            Set<Modifier> flags = tree.getModifiers().getFlags();
            String name = tree.getName().toString();
            if (flags.contains(Modifier.PRIVATE) && names.visibleMethods.contains(name)) {
                breaks(1, tree, "private method with the name of a public one");
            }
            if (!flags.contains(Modifier.PRIVATE) && !flags.contains(Modifier.PUBLIC)) {
                breaks(1, tree, "neither public nor private");
            }
            if (flags.contains(Modifier.SYNCHRONIZED)) {
                breaks(6, tree, "synchronized");
            }
            if (tree.getReturnType() instanceof ArrayTypeTree) {
                breaks(4, tree, "array answered");
            }
            if (tree.getParameters().size() > MOST_PARAMETERS) {
                breaks(10, tree, tree.getParameters().size() + " parameters");
            }
            long lines = lastLine(tree) - firstLine(tree) + 1;
            if (lines > MOST_LINES) {
                breaks(10, tree, lines + " lines");
            }
            return super.visitMethod(tree, p);
        }

        @Override
        public Void visitMethodInvocation(MethodInvocationTree tree, Void p) {
            String called = plainName(tree.getMethodSelect());
            if (!names.methods.contains(called)) {
                breaks(3, tree, "call of " + tree.getMethodSelect());
            }
            for (ExpressionTree argument : tree.getArguments()) {
                if (hasCall(argument)) {
                    breaks(10, tree, "call inside the arguments of a call");
                }
                if (isConstructor(method()) && isArray(argument)) {
                    breaks(4, tree, "array handed over by the constructor");
                }
            }
            String caller = method() == null ? "" : method().getName().toString();
            calls.computeIfAbsent(caller, none -> new TreeSet<>()).add(called);
            return super.visitMethodInvocation(tree, p);
        }

        /** How many methods stand above each other; 0 if one of them is called by itself. */
        private int depth(String name, List<String> above) {
            if (above.contains(name)) {
                return 0;
            }
            List<String> here = new ArrayList<>(above);
            here.add(name);
            int deepest = here.size();
            for (String called : calls.getOrDefault(name, Set.of())) {
                int below = depth(called, here);
                if (below == 0) {
                    return 0;
                }
                deepest = Math.max(deepest, below);
            }
            return deepest;
        }

        void looksAtCalls() {
            for (String name : names.methods) {
                int depth = depth(name, List.of());
                if (depth == 0) {
                    faults.add("rule 8: " + name + " comes to itself again");
                }
                if (depth > DEEPEST) {
                    faults.add("rule 10: calls from " + name + " go " + depth + " deep");
                }
            }
        }
    }

    /** The name in x and in this.x; empty for all that is not the class's own. */
    private static String plainName(Tree tree) {
        if (tree instanceof IdentifierTree plain) {
            return plain.getName().toString();
        }
        if (tree instanceof MemberSelectTree select
                && (select.getExpression().toString().equals("this") || select.getExpression().toString().equals(NAME))) {
            return select.getIdentifier().toString();
        }
        return "";
    }

    private static Set<String> faults(String source) throws IOException {
        JavaCompiler compiler = ToolProvider.getSystemJavaCompiler();
        JavaFileObject file = new SimpleJavaFileObject(URI.create("string:///" + NAME + ".java"), JavaFileObject.Kind.SOURCE) {
            @Override
            public CharSequence getCharContent(boolean ignoreEncodingErrors) {
                return source;
            }
        };
        JavacTask task = (JavacTask) compiler.getTask(null, null, null, List.of("--release", "17"), null, List.of(file));
        SourcePositions positions = Trees.instance(task).getSourcePositions();
        Set<String> faults = new TreeSet<>();
        for (CompilationUnitTree unit : task.parse()) {
            Names names = new Names();
            names.scan(unit, null);
            Reading reading = new Reading(unit, positions, names);
            reading.scan(unit, null);
            reading.looksAtCalls();
            faults.addAll(reading.faults);
        }
        return faults;
    }

    /** A class that keeps to the rules, with room for more lines in it and before it. */
    private static String sample(String before, String constructor, String members) {
        return before + """
                public final class ModelCounter {
                    public static final int NONE = -4;
                    private static final int SIZE = 4;
                    private final int[] cells = new int[SIZE];
                    private long sum;
                    private byte[] marks;
                    public ModelCounter() {
                        this.marks = new byte[3];
                        for (int i = 0; i < SIZE; i++) {
                            cells[i] = 1;
                        }
                        %s
                    }
                    public int clauses() {
                        int n = 0;
                        for (int i = cells.length - 1; i >= 0; i--) {
                            n += other(cells, i);
                        }
                        return n == 0 ? NONE : (int) (n + sum + ModelCounter.NONE);
                    }
                    private static int other(int[] of, int i) {
                        return of[i];
                    }
                %s
                }
                """.formatted(constructor, members);
    }

    private static String lines(int count) {
        return "private void f() {\n" + "int n;\n".repeat(count - 2) + "}\n";
    }

    private static String fields(int count) {
        StringBuilder all = new StringBuilder();
        for (int n = 0; n < count; n++) {
            all.append("private int field").append(n).append(";\n");
        }
        return all.toString();
    }

    private static String chain(int count) {
        StringBuilder all = new StringBuilder("private void f1() { }\n");
        for (int n = 2; n <= count; n++) {
            all.append("private void f").append(n).append("() { f").append(n - 1).append("(); }\n");
        }
        return all.toString();
    }

    private static int wrong = 0;

    private static void expect(int rule, String before, String constructor, String members) throws IOException {
        Set<String> found = faults(sample(before, constructor, members));
        boolean seen = rule == 0 ? found.isEmpty() : found.stream().anyMatch(told -> told.startsWith("rule " + rule + ":"));
        if (!seen) {
            wrong++;
            String due = rule == 0 ? "nothing" : "rule " + rule;
            System.out.println("in " + before + constructor + members + " found " + found + ", due is " + due);
        }
    }

    private static void member(int rule, String text) throws IOException {
        expect(rule, "", "", text);
    }

    private static void method(int rule, String statements) throws IOException {
        expect(rule, "", "", "private int f(int a, int b) { " + statements + " return a; }");
    }

    private static void keepsToTheRules() throws IOException {
        member(0, "");
        member(0, "private void f(int a, int b, int c, int d, int e, int g, int h) { }");
        member(0, lines(60));
        member(0, fields(37));
        member(0, chain(6));
        method(0, "int[] here = cells; here[0] = this.cells[1] + ~a; sum += b; sum++;");
        method(0, "for (int i = 0; a > b && i < 9; ++i) { if (i == 3) { continue; } cells[i & 3]--; }");
        method(0, "switch (a) { case 1: b = 2; break; default: b = 'x'; }");
        expect(0, "", "f();", "private void f() { }");
    }

    private static void breaksRules1To3() throws IOException {
        expect(1, "package p;\n", "", "");
        expect(1, "final class Other { }\n", "", "");
        expect(1, "abstract ", "", "");
        member(1, "private static final class Inner { }");
        member(1, "private interface Inner { }");
        member(1, "private enum Inner { A }");
        member(1, "private record Inner(int a) { }");
        member(1, "private int clauses(int a) { return a; }");
        member(1, "int f() { return 1; }");
        member(1, "protected int f() { return 1; }");
        member(2, "private double d;");
        member(2, "private float[] d;");
        member(2, "private int[][] d;");
        method(2, "var c = 1;");
        method(2, "sum += 1.5;");
        method(2, "sum += 1.5f;");
        method(2, "f(\"a\");");
        method(2, "new ModelCounter();");
        expect(3, "import java.util.List;\n", "", "");
        member(3, "private String text;");
        member(3, "private Integer[] text;");
        member(3, "@Override public void f() { }");
        method(3, "a = Math.abs(b);");
        method(3, "a = Integer.MAX_VALUE;");
        method(3, "a = java.lang.Integer.MAX_VALUE;");
        method(3, "a = hashCode();");
        method(3, "a = this.hashCode();");
        method(3, "a = cells.hashCode();");
        method(3, "System.out.println();");
    }

    private static void breaksRules4And5() throws IOException {
        method(4, "int[] c = new int[3];");
        method(4, "int[] c = {1, 2};");
        method(4, "marks = new byte[3];");
        method(4, "this.marks = marks;");
        method(4, "if (cells == null) { }");
        method(4, "int[] c = cells; if (c != cells) { }");
        method(4, "int[] c = cells; for (int i = 0; i < 3; i++) { c = cells; }");
        member(4, "private int[] f() { return cells; }");
        member(4, "private final int[] more = new int[0];");
        member(4, "private final int[] more = new int[SIZE + 1];");
        member(4, "private final int[] more = {1, 2};");
        member(4, "private final int[][] more = new int[2][2];");
        expect(4, "", "if (sum == 0) { marks = new byte[4]; }", "");
        expect(4, "", "for (int i = 0; i < 2; i++) { marks = new byte[4]; }", "");
        expect(4, "", "f(); more = new int[3];", "private int[] more; private void f() { }");
        expect(4, "", "f(cells);", "private void f(int[] c) { }");
        expect(4, "", "marks = more;", "private byte[] more;");
        member(5, "private static int count;");
        member(5, "private static final int[] MORE = new int[3];");
        member(5, "private static final boolean YES = true;");
        member(5, "private static final int MORE = more(); private static int more() { return 1; }");
        member(5, "static { }");
    }

    private static void breaksRules6To10() throws IOException {
        method(6, "throw null;");
        method(6, "try { a = b; } finally { b = a; }");
        method(6, "synchronized (this) { }");
        member(6, "private synchronized void f() { }");
        method(6, "assert a == b;");
        method(6, "if (cells instanceof int[]) { }");
        method(6, "int[] c = (int[]) cells;");
        member(6, "private Runnable r = () -> { };");
        member(6, "private Runnable r = this::clauses;");
        member(8, "private int f(int a) { return f(a - 1); }");
        member(8, "private int f(int a) { return g(a); } private int g(int a) { return this.f(a); }");
        method(8, "while (a < b) { a++; }");
        method(8, "do { a++; } while (a < b);");
        method(8, "for (;;) { }");
        method(8, "for (int i = 0; i < 9; ) { }");
        method(8, "for (int i = 0; i < 9; i--) { }");
        method(8, "for (int i = 0; i != 9; i++) { }");
        method(8, "for (int i = 0; i <= b; i++) { }");
        method(8, "for (int i = 9; i >= b; i--) { }");
        method(8, "for (int i = 0; a < b; i++) { }");
        method(8, "for (int i = 0; i < 9 || a < b; i++) { }");
        method(8, "for (int i = 0; i < 9; i++) { i = 3; }");
        method(8, "for (int i = 0; i < 9; i++) { i -= 1; }");
        method(8, "for (int i = 0; i < 9; i++) { cells[i--] = 1; }");
        member(10, "private void f(int a, int b, int c, int d, int e, int g, int h, int i) { }");
        member(10, "private int f(int a) { return a; } private int g(int a) { return f(f(a)); }");
        member(10, "private int f(int a) { return a; } private int g(int a) { return f(2 + clauses()); }");
        member(10, lines(61));
        member(10, fields(39));
        member(10, chain(7));
    }

    public static void main(String[] args) throws IOException {
        keepsToTheRules();
        breaksRules1To3();
        breaksRules4And5();
        breaksRules6To10();
        for (String told : faults(Files.readString(Path.of(SOURCE)))) {
            wrong++;
            System.out.println(SOURCE + ": " + told);
        }
        System.out.println(wrong == 0 ? "the rules are kept" : wrong + " faults");
        if (wrong != 0) {
            System.exit(1);
        }
    }
}
