import com.sun.source.tree.*;
import com.sun.source.util.JavacTask;
import com.sun.source.util.SourcePositions;
import com.sun.source.util.TreePath;
import com.sun.source.util.TreePathScanner;
import com.sun.source.util.TreeScanner;
import com.sun.source.util.Trees;
import java.io.IOException;
import java.net.URI;
import java.nio.file.Files;
import java.nio.file.Path;
import java.util.ArrayList;
import java.util.EnumSet;
import java.util.HashSet;
import java.util.LinkedHashMap;
import java.util.LinkedHashSet;
import java.util.List;
import java.util.Map;
import java.util.Set;
import javax.lang.model.element.Element;
import javax.lang.model.element.ElementKind;
import javax.lang.model.element.Modifier;
import javax.lang.model.element.VariableElement;
import javax.lang.model.type.ArrayType;
import javax.lang.model.type.TypeKind;
import javax.lang.model.type.TypeMirror;
import javax.tools.JavaCompiler;
import javax.tools.JavaFileObject;
import javax.tools.SimpleJavaFileObject;
import javax.tools.ToolProvider;

/**
 * The class's source keeps to those rules of LANGUAGE.md that can be seen from its lines. Not seen:
 * that an index or a divisor is right (rule 7), and that a loop's bound stays still (rule 8).
 */
public final class LanguageTest {
    private static final Path SOURCE = Path.of("src/main/java/SyscallFilter.java");
    private static final Set<TypeKind> NUMBERS = EnumSet.of(TypeKind.INT, TypeKind.LONG,
            TypeKind.SHORT, TypeKind.BYTE, TypeKind.CHAR, TypeKind.BOOLEAN);

    private static int wrong = 0;
    private static int broken = 0;

    public static void main(String[] args) throws IOException {
        String source = Files.readString(SOURCE);
        for (String fault : faultsOf(source)) {
            wrong++;
            System.out.println(fault);
        }
        everyRuleIsSeen(source);
        System.out.println(wrong == 0
                ? "the language is kept; " + broken + " sources that break it are seen"
                : wrong + " faults in the language");
        if (wrong != 0) {
            System.exit(1);
        }
    }

    /** The checks themselves are tested: each of these additions breaks the one rule before it. */
    private static void everyRuleIsSeen(String source) throws IOException {
        withMember(source, 1, "int x() { return 0; }");
        withMember(source, 1, "protected int x = 0;");
        withMember(source, 1, "private int rules(int n) { return n; }");
        withMember(source, 1, "private static final class X { }");
        withMember(source, 1, "private enum X { A }");
        withMember(source, 1, "private record X(int a) { }");
        withMember(source, 1, "private interface X { }");
        withText(source, 1, "public final class", "public class");
        withText(source, 1, "public final class", "final class X { }\npublic final class");
        withText(source, 1, "/** A first", "package x; /** A first");
        withMember(source, 2, "private float x = 0;");
        withMember(source, 2, "private int x(int n) { return (int) (n * 1.5); }");
        withMember(source, 2, "private void x() { var x = \"\"; }");
        withMember(source, 2, "private void x(int[][] x) { }");
        withMember(source, 3, "private int x(int n) { return Math.abs(n); }");
        withMember(source, 3, "private int x() { return hashCode(); }");
        withMember(source, 3, "private int x() { return Integer.MAX_VALUE; }");
        withText(source, 3, "/** A first", "import java.util.List; /** A first");
        withMember(source, 4, "private void x() { int[] x = new int[1]; }");
        withMember(source, 4, "private void x() { int[] x = {1}; }");
        withMember(source, 4, "private final int[] x = {1, 2};");
        withMember(source, 4, "private final int[] x = new int[0];");
        withMember(source, 4, "private int n = 2; private final int[] x = new int[n];");
        withMember(source, 4, "private final int[] x = 1 < 2 ? new int[1] : new int[2];");
        withMember(source, 4, "private int[] x() { return masks; }");
        withMember(source, 4, "private boolean x() { return masks == values; }");
        withMember(source, 4, "private boolean x() { return masks != null; }");
        withMember(source, 4, "private int[] x = new int[1]; private void y() { x = masks; }");
        withMember(source, 4, "private void x() { int[] a = masks;"
                + " for (int i = 0; i < 2; i++) { a = values; } }");
        withMember(source, 4, "private void x() { new SyscallFilter(); }");
        withMember(source, 4, "{ int[] x = new int[1]; }");
        withText(source, 4, "firsts[DRAFT] = 0;", "if (count == 0) { int[] x = new int[1]; }");
        withText(source, 4, "firsts[DRAFT] = 0;",
                "for (int i = 0; i < 2; i++) { int[] x = new int[1]; }");
        withText(source, 4, "firsts[DRAFT] = 0;", "openGap(0); int[] x = new int[1];");
        withMember(source, 5, "private static int x = 0;");
        withMember(source, 5, "private static final boolean X = true;");
        withMember(source, 5, "private static final int[] X = new int[1];");
        withMember(source, 5, "static { }");
        withMember(source, 6, "private void x() { throw null; }");
        withMember(source, 6, "private void x() { try { } finally { } }");
        withMember(source, 6, "private void x() { synchronized (this) { } }");
        withMember(source, 6, "private void x() { assert count > 0; }");
        withMember(source, 6, "private boolean x() { return masks instanceof int[]; }");
        withMember(source, 6, "private void x() { Runnable x = () -> { }; }");
        withMember(source, 6, "private void x() { Runnable x = this::open; }");
        withMember(source, 6, "private void x() { int[] x = (int[]) masks; }");
        withMember(source, 8, "private int x(int n) { return x(n - 1); }");
        withMember(source, 8, "private int x() { return y(); } private int y() { return x(); }");
        withMember(source, 8, "private void x() { while (true) { } }");
        withMember(source, 8, "private void x() { do { } while (count > 0); }");
        withMember(source, 8, "private void x() { for (;;) { } }");
        withMember(source, 8, "private void x() { for (int i = 0; i < 9; i--) { } }");
        withMember(source, 8, "private void x() { for (int i = 9; i > 0; i++) { } }");
        withMember(source, 8, "private void x() { for (int i = 0; i < 9; i++) { i--; } }");
        withMember(source, 8, "private void x() { for (int i = 0; i < 9; i++) { i -= 1; } }");
        withMember(source, 8, "private void x() { for (int i = 0; i < 9; i++) { i = 0; } }");
        withMember(source, 8, "private void x() { for (int i = 0; i < 9; count++) { } }");
        withMember(source, 10, "private void x(int a, int b, int c, int d, int e, int f, int g, int h) { }");
        withMember(source, 10, "private int x() { return remove(open()); }");
        withMember(source, 10, "private int x() { return remove(1 + open()); }");
        withMember(source, 10, "private void x() {" + "\n".repeat(60) + "}");
        withMember(source, 10, "private int x() { return y(); }"
                + " private int y() { return countWith(0, 0, 0); }");
        StringBuilder fields = new StringBuilder();
        for (int i = 0; i < 40; i++) {
            fields.append("private int x").append(i).append("; ");
        }
        withMember(source, 10, fields.toString());
    }

    private static void withMember(String source, int rule, String member) throws IOException {
        int end = source.lastIndexOf('}');
        mustBreak(rule, member, source.substring(0, end) + member + "\n}\n");
    }

    private static void withText(String source, int rule, String from, String to) throws IOException {
        mustBreak(rule, to, source.replace(from, to));
    }

    private static void mustBreak(int rule, String what, String source) throws IOException {
        broken++;
        for (String fault : faultsOf(source)) {
            if (fault.startsWith("rule " + rule + ":")) {
                return;
            }
        }
        wrong++;
        System.out.println("not seen to break rule " + rule + ": " + what);
    }

    private static Set<String> faultsOf(String source) throws IOException {
        JavaCompiler compiler = ToolProvider.getSystemJavaCompiler();
        JavacTask task = (JavacTask) compiler.getTask(null, null, found -> { },
                List.of("-proc:none", "--release", "17"), null, List.of(inMemory(source)));
        CompilationUnitTree unit = task.parse().iterator().next();
        task.analyze();
        Checks checks = new Checks(Trees.instance(task), unit);
        checks.checkUnit();
        checks.scan(unit, null);
        checks.checkCalls();
        return checks.faults;
    }

    private static JavaFileObject inMemory(String source) {
        URI name = URI.create("string:///SyscallFilter.java");
        return new SimpleJavaFileObject(name, JavaFileObject.Kind.SOURCE) {
            @Override
            public CharSequence getCharContent(boolean ignoreEncodingErrors) {
                return source;
            }
        };
    }

    private static final class Checks extends TreePathScanner<Void, Void> {
        private static final Set<Tree.Kind> LOOPS = EnumSet.of(Tree.Kind.FOR_LOOP,
                Tree.Kind.WHILE_LOOP, Tree.Kind.DO_WHILE_LOOP, Tree.Kind.ENHANCED_FOR_LOOP);
        private static final Set<Tree.Kind> BRANCHES = EnumSet.of(Tree.Kind.IF, Tree.Kind.SWITCH,
                Tree.Kind.SWITCH_EXPRESSION, Tree.Kind.CONDITIONAL_EXPRESSION,
                Tree.Kind.CONDITIONAL_AND, Tree.Kind.CONDITIONAL_OR);
        private static final Set<Tree.Kind> STEPS = EnumSet.of(
                Tree.Kind.PREFIX_INCREMENT, Tree.Kind.POSTFIX_INCREMENT,
                Tree.Kind.PREFIX_DECREMENT, Tree.Kind.POSTFIX_DECREMENT);
        private static final int MOST_PARAMETERS = 7;
        private static final int MOST_LINES = 60;
        private static final int MOST_DEPTH = 6;
        private static final int MOST_FIELDS = 40;

        final Set<String> faults = new LinkedHashSet<>();
        private final Trees trees;
        private final CompilationUnitTree unit;
        private final Map<Element, Set<Element>> calls = new LinkedHashMap<>();
        private final Set<String> publicMethods = new HashSet<>();
        private final Set<String> privateMethods = new HashSet<>();
        private int fields = 0;
        private boolean constructorHasCalled = false;

        Checks(Trees trees, CompilationUnitTree unit) {
            this.trees = trees;
            this.unit = unit;
        }

        private void fault(int rule, String text, Tree tree) {
            long at = trees.getSourcePositions().getStartPosition(unit, tree);
            String line = at < 0 ? "" : " (line " + unit.getLineMap().getLineNumber(at) + ")";
            faults.add("rule " + rule + ": " + text + line);
        }

        void checkUnit() {
            if (unit.getPackage() != null) {
                fault(1, "a package line", unit);
            }
            if (!unit.getImports().isEmpty()) {
                fault(3, "an import", unit);
            }
            if (unit.getTypeDecls().size() != 1) {
                fault(1, "not one class", unit);
            }
        }

        void checkCalls() {
            for (String name : privateMethods) {
                if (publicMethods.contains(name)) {
                    fault(1, "a private method bears the public name " + name, unit);
                }
            }
            if (fields > MOST_FIELDS) {
                fault(10, fields + " fields", unit);
            }
            for (Element method : calls.keySet()) {
                int depth = depthOf(method, new ArrayList<>());
                if (depth > MOST_DEPTH) {
                    fault(10, "calls go " + depth + " deep from " + method, unit);
                }
            }
        }

        private int depthOf(Element method, List<Element> above) {
            if (above.contains(method)) {
                fault(8, "recursion through " + method, unit);
                return 0;
            }
            above.add(method);
            int deepest = 0;
            for (Element called : calls.getOrDefault(method, Set.of())) {
                deepest = Math.max(deepest, depthOf(called, above));
            }
            above.remove(method);
            return deepest + 1;
        }

        @Override
        public Void visitClass(ClassTree tree, Void none) {
            Set<Modifier> modifiers = tree.getModifiers().getFlags();
            if (getCurrentPath().getParentPath().getLeaf() != unit) {
                fault(1, "a nested class", tree);
            } else if (tree.getKind() != Tree.Kind.CLASS
                    || !tree.getSimpleName().contentEquals("SyscallFilter")
                    || !modifiers.equals(EnumSet.of(Modifier.PUBLIC, Modifier.FINAL))
                    || tree.getExtendsClause() != null || !tree.getImplementsClause().isEmpty()) {
                fault(1, "not the public final class of the document", tree);
            }
            for (Tree member : tree.getMembers()) {
                if (member instanceof BlockTree && ((BlockTree) member).isStatic()) {
                    fault(5, "a static initialiser", member);
                }
            }
            return super.visitClass(tree, none);
        }

        @Override
        public Void visitMethod(MethodTree tree, Void none) {
            Element method = trees.getElement(getCurrentPath());
            calls.putIfAbsent(method, new LinkedHashSet<>());
            Set<Modifier> modifiers = tree.getModifiers().getFlags();
            checkAccess(modifiers, tree);
            Set<String> names = modifiers.contains(Modifier.PRIVATE) ? privateMethods : publicMethods;
            names.add(tree.getName().toString());
            if (tree.getParameters().size() > MOST_PARAMETERS) {
                fault(10, tree.getParameters().size() + " parameters", tree);
            }
            if (linesOf(tree) > MOST_LINES) {
                fault(10, linesOf(tree) + " lines", tree);
            }
            if (tree.getReturnType() != null) {
                checkAnswer(tree);
            }
            return super.visitMethod(tree, none);
        }

        private void checkAccess(Set<Modifier> modifiers, Tree tree) {
            if (!modifiers.contains(Modifier.PUBLIC) && !modifiers.contains(Modifier.PRIVATE)) {
                fault(1, "a member that is neither public nor private", tree);
            }
        }

        private void checkAnswer(MethodTree tree) {
            TypeMirror type = trees.getTypeMirror(new TreePath(getCurrentPath(), tree.getReturnType()));
            if (type.getKind() == TypeKind.ARRAY) {
                fault(4, "a method answers an array", tree);
            } else if (type.getKind() != TypeKind.VOID && !NUMBERS.contains(type.getKind())) {
                fault(2, "a method answers " + type, tree);
            }
        }

        private long linesOf(Tree tree) {
            SourcePositions positions = trees.getSourcePositions();
            LineMap lines = unit.getLineMap();
            return lines.getLineNumber(positions.getEndPosition(unit, tree))
                    - lines.getLineNumber(positions.getStartPosition(unit, tree)) + 1;
        }

        @Override
        public Void visitVariable(VariableTree tree, Void none) {
            VariableElement variable = (VariableElement) trees.getElement(getCurrentPath());
            if (!isAllowed(variable.asType())) {
                fault(2, "a variable of type " + variable.asType(), tree);
            }
            if (variable.getKind() == ElementKind.FIELD) {
                checkField(tree, variable);
            }
            return super.visitVariable(tree, none);
        }

        private void checkField(VariableTree tree, VariableElement field) {
            Set<Modifier> modifiers = tree.getModifiers().getFlags();
            checkAccess(modifiers, tree);
            if (!modifiers.contains(Modifier.STATIC)) {
                fields++;
                return;
            }
            TypeKind kind = field.asType().getKind();
            if (field.getConstantValue() == null || kind != TypeKind.INT && kind != TypeKind.LONG) {
                fault(5, "a static field that is not a constant of int or long", tree);
            }
        }

        private static boolean isAllowed(TypeMirror type) {
            if (type.getKind() == TypeKind.ARRAY) {
                return NUMBERS.contains(((ArrayType) type).getComponentType().getKind());
            }
            return NUMBERS.contains(type.getKind());
        }

        @Override
        public Void visitLiteral(LiteralTree tree, Void none) {
            switch (tree.getKind()) {
                case NULL_LITERAL:
                    fault(4, "null", tree);
                    break;
                case STRING_LITERAL:
                case FLOAT_LITERAL:
                case DOUBLE_LITERAL:
                    fault(2, "the literal " + tree, tree);
                    break;
                default:
                    break;
            }
            return super.visitLiteral(tree, none);
        }

        @Override
        public Void visitIdentifier(IdentifierTree tree, Void none) {
            Element named = trees.getElement(getCurrentPath());
            if (named == null) {
                fault(3, "the unknown name " + tree, tree);
            } else if (named.getKind().isClass() || named.getKind().isInterface()
                    || named.getKind() == ElementKind.PACKAGE) {
                if (!tree.getName().contentEquals("SyscallFilter")) {
                    fault(3, "the class or package " + tree, tree);
                }
            }
            return super.visitIdentifier(tree, none);
        }

        @Override
        public Void visitMethodInvocation(MethodInvocationTree tree, Void none) {
            // javac itself adds the call of Object's constructor.
            if (tree.getMethodSelect().toString().equals("super")) {
                return null;
            }
            Element called = trees.getElement(getCurrentPath());
            if (called == null || !called.getEnclosingElement().getSimpleName().contentEquals("SyscallFilter")) {
                fault(3, "a call of " + tree.getMethodSelect(), tree);
                return super.visitMethodInvocation(tree, none);
            }
            if (isInArguments()) {
                fault(10, "a call inside the arguments of another", tree);
            }
            MethodTree caller = enclosingMethod();
            if (caller != null) {
                calls.computeIfAbsent(elementOf(caller), key -> new LinkedHashSet<>()).add(called);
            }
            if (isConstructor(caller) && !called.getModifiers().contains(Modifier.STATIC)) {
                constructorHasCalled = true;
            }
            return super.visitMethodInvocation(tree, none);
        }

        private boolean isInArguments() {
            for (TreePath path = getCurrentPath().getParentPath(); path != null; path = path.getParentPath()) {
                if (path.getLeaf() instanceof MethodInvocationTree) {
                    return true;
                }
            }
            return false;
        }

        private MethodTree enclosingMethod() {
            for (TreePath path = getCurrentPath(); path != null; path = path.getParentPath()) {
                if (path.getLeaf() instanceof MethodTree) {
                    return (MethodTree) path.getLeaf();
                }
            }
            return null;
        }

        private Element elementOf(Tree tree) {
            return trees.getElement(trees.getPath(unit, tree));
        }

        private static boolean isConstructor(MethodTree method) {
            return method != null && method.getReturnType() == null;
        }

        private boolean isInside(Set<Tree.Kind> kinds) {
            for (TreePath path = getCurrentPath(); path != null; path = path.getParentPath()) {
                if (kinds.contains(path.getLeaf().getKind())) {
                    return true;
                }
            }
            return false;
        }

        @Override
        public Void visitNewClass(NewClassTree tree, Void none) {
            fault(4, "a new object", tree);
            return super.visitNewClass(tree, none);
        }

        @Override
        public Void visitNewArray(NewArrayTree tree, Void none) {
            MethodTree method = enclosingMethod();
            boolean inBlock = isInside(EnumSet.of(Tree.Kind.BLOCK));
            if (inBlock && !isConstructor(method)) {
                fault(4, "an array made outside the fields' initialisers and the constructor", tree);
            }
            if (isInside(LOOPS) || isInside(BRANCHES)) {
                fault(4, "an array made in a loop or behind a condition", tree);
            }
            if (isConstructor(method) && constructorHasCalled) {
                fault(4, "an array made after a call", tree);
            }
            if (tree.getInitializers() != null || tree.getDimensions().size() != 1
                    || !isLength(tree.getDimensions().get(0))) {
                fault(4, "an array whose length is not a literal or a constant of 1 or more", tree);
            }
            return super.visitNewArray(tree, none);
        }

        private boolean isLength(ExpressionTree length) {
            Object value = null;
            if (length instanceof LiteralTree) {
                value = ((LiteralTree) length).getValue();
            } else if (elementOf(length) instanceof VariableElement) {
                value = ((VariableElement) elementOf(length)).getConstantValue();
            }
            return value instanceof Integer && (Integer) value >= 1;
        }

        @Override
        public Void visitAssignment(AssignmentTree tree, Void none) {
            if (isArray(tree.getVariable())) {
                Element target = elementOf(tree.getVariable());
                boolean field = target.getKind() == ElementKind.FIELD;
                if (field ? !isConstructor(enclosingMethod()) : isInside(LOOPS)) {
                    fault(4, "another array for " + tree.getVariable(), tree);
                }
            }
            return super.visitAssignment(tree, none);
        }

        private boolean isArray(Tree tree) {
            TypeMirror type = trees.getTypeMirror(new TreePath(getCurrentPath(), tree));
            return type != null && type.getKind() == TypeKind.ARRAY;
        }

        @Override
        public Void visitBinary(BinaryTree tree, Void none) {
            if (isArray(tree.getLeftOperand()) || isArray(tree.getRightOperand())) {
                fault(4, "an array compared", tree);
            }
            return super.visitBinary(tree, none);
        }

        @Override
        public Void visitThrow(ThrowTree tree, Void none) {
            fault(6, "throw", tree);
            return super.visitThrow(tree, none);
        }

        @Override
        public Void visitTry(TryTree tree, Void none) {
            fault(6, "try", tree);
            return super.visitTry(tree, none);
        }

        @Override
        public Void visitSynchronized(SynchronizedTree tree, Void none) {
            fault(6, "synchronized", tree);
            return super.visitSynchronized(tree, none);
        }

        @Override
        public Void visitAssert(AssertTree tree, Void none) {
            fault(6, "assert", tree);
            return super.visitAssert(tree, none);
        }

        @Override
        public Void visitInstanceOf(InstanceOfTree tree, Void none) {
            fault(6, "instanceof", tree);
            return super.visitInstanceOf(tree, none);
        }

        @Override
        public Void visitLambdaExpression(LambdaExpressionTree tree, Void none) {
            fault(6, "a lambda", tree);
            return super.visitLambdaExpression(tree, none);
        }

        @Override
        public Void visitMemberReference(MemberReferenceTree tree, Void none) {
            fault(6, "a method reference", tree);
            return super.visitMemberReference(tree, none);
        }

        @Override
        public Void visitTypeCast(TypeCastTree tree, Void none) {
            if (!(tree.getType() instanceof PrimitiveTypeTree)) {
                fault(6, "a cast of a reference", tree);
            }
            return super.visitTypeCast(tree, none);
        }

        // Rule 8 leaves while and do with a counter too; this class needs counting loops alone,
        // and those are the ones whose end a machine can see.
        @Override
        public Void visitWhileLoop(WhileLoopTree tree, Void none) {
            fault(8, "a loop that does not count", tree);
            return super.visitWhileLoop(tree, none);
        }

        @Override
        public Void visitDoWhileLoop(DoWhileLoopTree tree, Void none) {
            fault(8, "a loop that does not count", tree);
            return super.visitDoWhileLoop(tree, none);
        }

        @Override
        public Void visitForLoop(ForLoopTree tree, Void none) {
            String counter = counterOf(tree);
            if (counter == null || isSetIn(tree.getStatement(), counter)) {
                fault(8, "a loop that does not count", tree);
            }
            return super.visitForLoop(tree, none);
        }

        /** The variable that is stepped towards the bound on the condition's right side, or null. */
        private static String counterOf(ForLoopTree tree) {
            if (!(tree.getCondition() instanceof BinaryTree) || tree.getUpdate().size() != 1
                    || !(tree.getUpdate().get(0).getExpression() instanceof UnaryTree)) {
                return null;
            }
            BinaryTree condition = (BinaryTree) tree.getCondition();
            UnaryTree step = (UnaryTree) tree.getUpdate().get(0).getExpression();
            boolean up = step.getKind() == Tree.Kind.POSTFIX_INCREMENT
                    && (condition.getKind() == Tree.Kind.LESS_THAN
                        || condition.getKind() == Tree.Kind.LESS_THAN_EQUAL);
            boolean down = step.getKind() == Tree.Kind.POSTFIX_DECREMENT
                    && (condition.getKind() == Tree.Kind.GREATER_THAN
                        || condition.getKind() == Tree.Kind.GREATER_THAN_EQUAL);
            String counter = step.getExpression().toString();
            boolean same = counter.equals(condition.getLeftOperand().toString());
            return same && (up || down) ? counter : null;
        }

        private static boolean isSetIn(Tree body, String counter) {
            boolean[] found = {false};
            new TreeScanner<Void, Void>() {
                private void set(Tree target) {
                    found[0] = found[0] || target.toString().equals(counter);
                }

                @Override
                public Void visitAssignment(AssignmentTree tree, Void none) {
                    set(tree.getVariable());
                    return super.visitAssignment(tree, none);
                }

                @Override
                public Void visitCompoundAssignment(CompoundAssignmentTree tree, Void none) {
                    set(tree.getVariable());
                    return super.visitCompoundAssignment(tree, none);
                }

                @Override
                public Void visitUnary(UnaryTree tree, Void none) {
                    if (STEPS.contains(tree.getKind())) {
                        set(tree.getExpression());
                    }
                    return super.visitUnary(tree, none);
                }
            }.scan(body, null);
            return found[0];
        }
    }
}
