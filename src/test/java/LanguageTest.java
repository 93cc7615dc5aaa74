import com.sun.source.tree.*;
import com.sun.source.util.JavacTask;
import com.sun.source.util.TreePath;
import com.sun.source.util.TreePathScanner;
import com.sun.source.util.Trees;
import java.io.File;
import java.io.IOException;
import java.util.ArrayDeque;
import java.util.ArrayList;
import java.util.Arrays;
import java.util.Deque;
import java.util.HashMap;
import java.util.HashSet;
import java.util.List;
import java.util.Map;
import java.util.Set;
import java.util.TreeMap;
import java.util.TreeSet;
import javax.lang.model.element.Element;
import javax.lang.model.element.ElementKind;
import javax.lang.model.element.Modifier;
import javax.lang.model.element.TypeElement;
import javax.lang.model.element.VariableElement;
import javax.lang.model.type.ArrayType;
import javax.lang.model.type.TypeKind;
import javax.lang.model.type.TypeMirror;
import javax.tools.JavaCompiler;
import javax.tools.StandardJavaFileManager;
import javax.tools.ToolProvider;

/**
 * Reads the class as the compiler does and holds it to what can be seen there of LANGUAGE.md. Where the class needs less
 * than a rule allows, the test asks for the lesser: no list, no text made, no object made by a call, every divisor a constant.
 * A file named as argument is read in place of the class.
 */
public final class LanguageTest extends TreePathScanner<Void, Void> {
    private static final Set<String> LIBRARY = new HashSet<>(Arrays.asList("java.lang.String.length", "java.lang.String.charAt",
        "java.lang.Math.min", "java.lang.Math.max", "java.lang.Math.abs", "java.lang.Math.floorDiv", "java.lang.Math.floorMod",
        "java.lang.Integer.bitCount", "java.lang.System.arraycopy", "java.lang.Object.<init>"));
    private static final Set<TypeKind> NUMBERS = Set.of(TypeKind.INT, TypeKind.LONG, TypeKind.CHAR, TypeKind.BYTE, TypeKind.SHORT);
    private static final int MOST_CLASSES = 12;
    private static final int MOST_FIELDS = 20;
    private static final int MOST_PARAMETERS = 7;
    private static final int MOST_LINES = 60;
    private static final int DEEPEST = 8;
    /** The methods of the one recursion, which the eight brackets that may be open keep low. */
    private static final Set<String> RECURSION = new TreeSet<>(Arrays.asList("Parser.sum", "Parser.product", "Parser.part",
        "Parser.pairOfSums", "Parser.choice", "Parser.test", "Parser.both", "Parser.fact", "Parser.comparison"));

    private static int wrong = 0;

    private final Trees trees;
    private final CompilationUnitTree unit;
    /** Who calls whom. */
    private final Map<String, Set<String>> calls = new TreeMap<>();
    private String method = "";
    private int classes;

    private LanguageTest(Trees trees, CompilationUnitTree unit) {
        this.trees = trees;
        this.unit = unit;
    }

    public static void main(String[] args) throws IOException {
        File file = new File(args.length > 0 ? args[0] : "src/main/java/BeastsChoose.java");
        JavaCompiler compiler = ToolProvider.getSystemJavaCompiler();
        try (StandardJavaFileManager files = compiler.getStandardFileManager(null, null, null)) {
            JavacTask task = (JavacTask) compiler.getTask(null, files, null, List.of("-proc:none"), null, files.getJavaFileObjects(file));
            CompilationUnitTree unit = task.parse().iterator().next();
            task.analyze();
            LanguageTest test = new LanguageTest(Trees.instance(task), unit);
            test.scan(new TreePath(unit), null);
            test.lookAtSigns(unit.getSourceFile().getCharContent(true).toString());
            test.lookAtDepth();
        }
        System.out.println(wrong == 0 ? "the class keeps to the language" : wrong + " places do not keep to the language");
        if (wrong != 0) {
            System.exit(1);
        }
    }

    private static void failed(long line, String what) {
        wrong++;
        System.out.println((line > 0 ? "line " + line + ": " : "") + what);
    }

    private void must(boolean holds, Tree where, String what) {
        if (!holds) {
            failed(unit.getLineMap().getLineNumber(trees.getSourcePositions().getStartPosition(unit, where)), what);
        }
    }

    private TypeMirror typeOf(Tree t) {
        return trees.getTypeMirror(new TreePath(getCurrentPath(), t));
    }

    private Element elementOf(Tree t) {
        return trees.getElement(new TreePath(getCurrentPath(), t));
    }

    // ---- what may not stand anywhere (rules 1, 2, 4, 6)

    @Override
    public Void visitCompilationUnit(CompilationUnitTree t, Void v) {
        must(t.getPackage() == null, t, "a package");
        must(t.getTypeDecls().size() == 1, t, "more than one class outside");
        return super.visitCompilationUnit(t, v);
    }

    @Override
    public Void visitImport(ImportTree t, Void v) {
        must(false, t, "an import");
        return null;
    }

    @Override
    public Void visitLambdaExpression(LambdaExpressionTree t, Void v) {
        must(false, t, "a lambda");
        return super.visitLambdaExpression(t, v);
    }

    @Override
    public Void visitMemberReference(MemberReferenceTree t, Void v) {
        must(false, t, "a method reference");
        return super.visitMemberReference(t, v);
    }

    @Override
    public Void visitThrow(ThrowTree t, Void v) {
        must(false, t, "a throw");
        return super.visitThrow(t, v);
    }

    @Override
    public Void visitTry(TryTree t, Void v) {
        must(false, t, "a try");
        return super.visitTry(t, v);
    }

    @Override
    public Void visitSynchronized(SynchronizedTree t, Void v) {
        must(false, t, "a synchronized");
        return super.visitSynchronized(t, v);
    }

    @Override
    public Void visitAssert(AssertTree t, Void v) {
        must(false, t, "an assert");
        return super.visitAssert(t, v);
    }

    @Override
    public Void visitTypeCast(TypeCastTree t, Void v) {
        must(typeOf(t.getType()).getKind().isPrimitive(), t, "a cast of an object");
        return super.visitTypeCast(t, v);
    }

    // ---- classes, fields, types (rules 2, 3, 5, 11)

    @Override
    public Void visitClass(ClassTree t, Void v) {
        Tree around = getCurrentPath().getParentPath().getLeaf();
        boolean isOutside = around instanceof CompilationUnitTree;
        classes++;
        must(classes <= MOST_CLASSES, t, "too many classes");
        must(t.getKind() == Tree.Kind.CLASS, t, "no plain class");
        must(isOutside || around instanceof ClassTree, t, "a local or anonymous class");
        Set<Modifier> modifiers = t.getModifiers().getFlags();
        must(isOutside || modifiers.contains(Modifier.STATIC) && !modifiers.contains(Modifier.PUBLIC)
            && !modifiers.contains(Modifier.PROTECTED), t, "a class inside that is not static, or open");
        int fields = 0;
        for (Tree member : t.getMembers()) {
            must(!(member instanceof BlockTree), member, "an initialiser block");
            fields += member instanceof VariableTree && !isStatic((VariableTree) member) ? 1 : 0;
        }
        must(fields <= MOST_FIELDS, t, fields + " fields");
        String held = method;
        method = t.getSimpleName() + ".<init>";
        super.visitClass(t, v);
        method = held;
        return null;
    }

    private static boolean isStatic(VariableTree t) {
        return t.getModifiers().getFlags().contains(Modifier.STATIC);
    }

    @Override
    public Void visitVariable(VariableTree t, Void v) {
        must(isAllowed(typeOf(t.getType())), t, "the type of " + t.getName());
        if (isStatic(t)) {
            must(t.getModifiers().getFlags().contains(Modifier.FINAL), t, t.getName() + " is static and not final");
            Element e = trees.getElement(getCurrentPath());
            must(e instanceof VariableElement && ((VariableElement) e).getConstantValue() != null, t, t.getName() + " is no constant");
        }
        return super.visitVariable(t, v);
    }

    private static boolean isAllowed(TypeMirror type) {
        if (type.getKind().isPrimitive()) {
            return type.getKind() != TypeKind.FLOAT && type.getKind() != TypeKind.DOUBLE;
        }
        if (type.getKind() == TypeKind.ARRAY) {
            TypeMirror part = ((ArrayType) type).getComponentType();
            boolean isRow = part.getKind() == TypeKind.ARRAY && NUMBERS.contains(((ArrayType) part).getComponentType().getKind());
            return isRow || part.getKind() != TypeKind.ARRAY && isAllowed(part);
        }
        String name = type.toString();
        return name.equals("java.lang.String") || name.startsWith("BeastsChoose");
    }

    // ---- methods and calls (rules 4, 8, 11, 12)

    @Override
    public Void visitMethod(MethodTree t, Void v) {
        String held = method;
        method = nameOf(trees.getElement(getCurrentPath()));
        calls.computeIfAbsent(method, m -> new TreeSet<>());
        must(t.getParameters().size() <= MOST_PARAMETERS, t, method + " takes too many");
        must(t.getThrows().isEmpty(), t, method + " throws");
        must(!t.getName().toString().matches("equals|hashCode|toString"), t, method + " of one's own");
        must(t.getReturnType() == null || typeOf(t.getReturnType()).getKind() == TypeKind.VOID || isAllowed(typeOf(t.getReturnType())),
            t, "what " + method + " returns");
        long start = trees.getSourcePositions().getStartPosition(unit, t);
        long end = trees.getSourcePositions().getEndPosition(unit, t);
        if (end > start) {
            long lines = unit.getLineMap().getLineNumber(end) - unit.getLineMap().getLineNumber(start) + 1;
            must(lines <= MOST_LINES, t, method + " has " + lines + " lines");
        }
        super.visitMethod(t, v);
        method = held;
        return null;
    }

    private static String nameOf(Element e) {
        String owner = ((TypeElement) e.getEnclosingElement()).getQualifiedName().toString();
        return (owner.startsWith("BeastsChoose.") ? owner.substring("BeastsChoose.".length()) : owner) + "." + e.getSimpleName();
    }

    @Override
    public Void visitMethodInvocation(MethodInvocationTree t, Void v) {
        Element e = elementOf(t.getMethodSelect());
        String name = nameOf(e);
        boolean isOwn = !name.startsWith("java.");
        must(isOwn || LIBRARY.contains(name), t, name + " of the library");
        if (!name.equals("java.lang.Object.<init>")) {
            calls.computeIfAbsent(method, m -> new TreeSet<>()).add(name);
        }
        if (name.equals("java.lang.Math.floorDiv") || name.equals("java.lang.Math.floorMod")) {
            must(isBehindTest(t.getArguments().get(1).toString()), t, "a divisor that is not looked at before");
        }
        return super.visitMethodInvocation(t, v);
    }

    /** Whether this place is what a conditional gives when the divisor is not 0. */
    private boolean isBehindTest(String divisor) {
        Tree around = getCurrentPath().getParentPath().getLeaf();
        return around instanceof ConditionalExpressionTree
            && ((ConditionalExpressionTree) around).getFalseExpression() == getCurrentPath().getLeaf()
            && ((ConditionalExpressionTree) around).getCondition().toString().equals(divisor + " == 0");
    }

    @Override
    public Void visitNewClass(NewClassTree t, Void v) {
        must(method.endsWith(".<init>"), t, method + " makes an object");
        must(t.getClassBody() == null, t, "an anonymous class");
        calls.computeIfAbsent(method, m -> new TreeSet<>()).add(nameOf(elementOf(t)));
        return super.visitNewClass(t, v);
    }

    @Override
    public Void visitNewArray(NewArrayTree t, Void v) {
        must(method.endsWith(".<init>"), t, method + " makes an array");
        for (ExpressionTree length : t.getDimensions()) {
            Long n = constantOf(length);
            must(n != null && n >= 0, t, "the length " + length + " is no constant");
        }
        return super.visitNewArray(t, v);
    }

    // ---- operators and loops (rules 7, 9, 10)

    @Override
    public Void visitBinary(BinaryTree t, Void v) {
        boolean hasText = isText(t.getLeftOperand()) || isText(t.getRightOperand());
        must(!hasText, t, t.getKind() + " of texts");
        lookAtDivisor(t.getKind(), t.getRightOperand());
        return super.visitBinary(t, v);
    }

    @Override
    public Void visitCompoundAssignment(CompoundAssignmentTree t, Void v) {
        must(!isText(t.getVariable()), t, t.getKind() + " of texts");
        lookAtDivisor(t.getKind(), t.getExpression());
        return super.visitCompoundAssignment(t, v);
    }

    private boolean isText(Tree t) {
        return typeOf(t).toString().equals("java.lang.String");
    }

    private void lookAtDivisor(Tree.Kind kind, ExpressionTree divisor) {
        if (kind == Tree.Kind.DIVIDE || kind == Tree.Kind.REMAINDER || kind == Tree.Kind.DIVIDE_ASSIGNMENT
            || kind == Tree.Kind.REMAINDER_ASSIGNMENT) {
            Long n = constantOf(divisor);
            must(n != null && n != 0, divisor, "the divisor " + divisor + " is no constant, or 0");
        }
    }

    /** The value of a number, a constant, or + - * << of such; null for what is no constant. */
    private Long constantOf(ExpressionTree t) {
        if (t instanceof ParenthesizedTree) {
            return constantOf(((ParenthesizedTree) t).getExpression());
        }
        if (t instanceof LiteralTree) {
            Object value = ((LiteralTree) t).getValue();
            return value instanceof Number ? Long.valueOf(((Number) value).longValue()) : null;
        }
        if (t instanceof BinaryTree) {
            Long a = constantOf(((BinaryTree) t).getLeftOperand());
            Long b = constantOf(((BinaryTree) t).getRightOperand());
            return a == null || b == null ? null : joined(t.getKind(), a, b);
        }
        Element e = trees.getElement(trees.getPath(unit, t));
        if (e != null && e.getKind() == ElementKind.FIELD && ((VariableElement) e).getConstantValue() instanceof Number) {
            return ((Number) ((VariableElement) e).getConstantValue()).longValue();
        }
        return null;
    }

    private static Long joined(Tree.Kind kind, long a, long b) {
        switch (kind) {
            case PLUS: return a + b;
            case MINUS: return a - b;
            case MULTIPLY: return a * b;
            case LEFT_SHIFT: return a << b;
            default: return null;
        }
    }

    @Override
    public Void visitForLoop(ForLoopTree t, Void v) {
        must(t.getCondition() instanceof BinaryTree && !t.getUpdate().isEmpty(), t, "a loop without a counter against a bound");
        return super.visitForLoop(t, v);
    }

    @Override
    public Void visitWhileLoop(WhileLoopTree t, Void v) {
        String bound = t.getCondition().toString();
        must(bound.startsWith("(at < length && ") && t.getStatement().toString().contains("at++;"), t, "a while that is no walk along the tape");
        return super.visitWhileLoop(t, v);
    }

    @Override
    public Void visitDoWhileLoop(DoWhileLoopTree t, Void v) {
        must(false, t, "a do loop");
        return super.visitDoWhileLoop(t, v);
    }

    // ---- the whole text (rules 4, 8)

    private void lookAtSigns(String text) {
        for (int i = 0; i < text.length(); i++) {
            char c = text.charAt(i);
            if (c != '\n' && (c < ' ' || c > 126)) {
                failed(unit.getLineMap().getLineNumber(i), "the sign " + (int) c);
            }
        }
    }

    private void lookAtDepth() {
        Set<String> recursive = new TreeSet<>();
        for (String m : calls.keySet()) {
            if (reached(m).contains(m)) {
                recursive.add(m);
            }
        }
        if (!recursive.equals(RECURSION)) {
            failed(0, "what calls itself: " + recursive);
            return;
        }
        Map<String, List<String>> known = new HashMap<>();
        for (String m : calls.keySet()) {
            List<String> chain = deepest(m, known);
            if (chain.size() > DEEPEST) {
                failed(0, chain.size() + " calls deep: " + chain);
            }
        }
    }

    private Set<String> reached(String from) {
        Set<String> met = new HashSet<>();
        Deque<String> left = new ArrayDeque<>(calls.get(from));
        while (!left.isEmpty()) {
            String m = left.pop();
            if (met.add(m)) {
                left.addAll(calls.getOrDefault(m, Set.of()));
            }
        }
        return met;
    }

    /** The longest chain of calls from a method on; the recursion counts as one call. */
    private List<String> deepest(String m, Map<String, List<String>> known) {
        if (known.containsKey(m)) {
            return known.get(m);
        }
        List<String> best = List.of();
        Set<String> next = new TreeSet<>(calls.getOrDefault(m, Set.of()));
        if (RECURSION.contains(m)) {
            for (String r : RECURSION) {
                next.addAll(calls.get(r));
            }
            next.removeAll(RECURSION);
        }
        for (String n : next) {
            List<String> chain = deepest(n, known);
            best = chain.size() > best.size() ? chain : best;
        }
        List<String> whole = new ArrayList<>(List.of(m));
        whole.addAll(best);
        known.put(m, whole);
        return whole;
    }
}
