import com.sun.source.tree.BinaryTree;
import com.sun.source.tree.ClassTree;
import com.sun.source.tree.CompilationUnitTree;
import com.sun.source.tree.CompoundAssignmentTree;
import com.sun.source.tree.AssignmentTree;
import com.sun.source.tree.ExpressionStatementTree;
import com.sun.source.tree.ExpressionTree;
import com.sun.source.tree.ForLoopTree;
import com.sun.source.tree.IdentifierTree;
import com.sun.source.tree.LiteralTree;
import com.sun.source.tree.MethodInvocationTree;
import com.sun.source.tree.MethodTree;
import com.sun.source.tree.NewArrayTree;
import com.sun.source.tree.NewClassTree;
import com.sun.source.tree.ParenthesizedTree;
import com.sun.source.tree.ThrowTree;
import com.sun.source.tree.Tree;
import com.sun.source.tree.TypeCastTree;
import com.sun.source.tree.UnaryTree;
import com.sun.source.tree.VariableTree;
import com.sun.source.tree.WhileLoopTree;
import com.sun.source.util.JavacTask;
import com.sun.source.util.TreePath;
import com.sun.source.util.TreePathScanner;
import com.sun.source.util.Trees;
import java.util.ArrayList;
import java.util.HashMap;
import java.util.LinkedHashMap;
import java.util.LinkedHashSet;
import java.util.List;
import java.util.Map;
import java.util.Set;
import javax.lang.model.element.Element;
import javax.lang.model.element.ElementKind;
import javax.lang.model.element.ExecutableElement;
import javax.lang.model.element.Modifier;
import javax.lang.model.element.TypeElement;
import javax.lang.model.element.VariableElement;
import javax.lang.model.type.ArrayType;
import javax.lang.model.type.TypeKind;
import javax.lang.model.type.TypeMirror;
import javax.tools.JavaCompiler;
import javax.tools.StandardJavaFileManager;
import javax.tools.ToolProvider;

/**
 * The rules of LANGUAGE.md, as far as they can be read off the program's tree: javac's own tree is walked, so that a
 * name is what it stands for. Stricter than the rules where the program needs less than they leave.
 */
public final class LanguageTest extends TreePathScanner<Void, Void> {
    private static final String FILE = "src/main/java/SyntaxRules.java";
    private static final int MOST_DEEP = 8;
    private static final int MOST_LINES = 60;
    private static final int MOST_CLASSES = 12;
    private static final int MOST_FIELDS = 20;
    private static final int MOST_PARAMETERS = 7;

    private static final Set<Tree.Kind> BARRED = Set.of(Tree.Kind.LAMBDA_EXPRESSION, Tree.Kind.MEMBER_REFERENCE,
        Tree.Kind.TRY, Tree.Kind.CATCH, Tree.Kind.SYNCHRONIZED, Tree.Kind.ASSERT, Tree.Kind.INSTANCE_OF,
        Tree.Kind.SWITCH_EXPRESSION, Tree.Kind.YIELD, Tree.Kind.ANNOTATION, Tree.Kind.DO_WHILE_LOOP,
        Tree.Kind.ENHANCED_FOR_LOOP, Tree.Kind.LABELED_STATEMENT, Tree.Kind.PARAMETERIZED_TYPE);

    private static final Set<String> LIBRARY = Set.of("java.lang.System.arraycopy", "java.lang.Integer.bitCount",
        "java.lang.Integer.numberOfTrailingZeros", "java.lang.Math.max", "java.lang.Math.min");

    private final Trees trees;
    private final CompilationUnitTree unit;
    /** By method the methods that it calls, as far as they are the program's own. */
    private final Map<String, Set<String>> calls = new LinkedHashMap<>();
    private final Map<String, Integer> depths = new HashMap<>();
    private final Set<String> faceNames = new LinkedHashSet<>();
    private int classes;
    private String method = "";

    private LanguageTest(Trees trees, CompilationUnitTree unit) {
        this.trees = trees;
        this.unit = unit;
    }

    public static void main(String[] args) throws Exception {
        JavaCompiler compiler = ToolProvider.getSystemJavaCompiler();
        StandardJavaFileManager files = compiler.getStandardFileManager(null, null, null);
        JavacTask task = (JavacTask) compiler.getTask(null, files, null, List.of("-proc:none"), null, files.getJavaFileObjects(FILE));
        List<CompilationUnitTree> units = new ArrayList<>();
        task.parse().forEach(units::add);
        task.analyze();
        Desk.due("files", units.size(), 1);
        LanguageTest test = new LanguageTest(Trees.instance(task), units.get(0));
        test.face();
        test.scan(units.get(0), null);
        test.depth();
        Desk.close("LanguageTest");
    }

    private void rule(int number, String what, Tree tree, boolean holds) {
        if (!holds) {
            long line = unit.getLineMap().getLineNumber(trees.getSourcePositions().getStartPosition(unit, tree));
            Desk.promise = "LANGUAGE.md, rule " + number;
            Desk.due(what + ", line " + line, "not so", "so");
        }
    }

    private Element elementOf(Tree tree) {
        return trees.getElement(new TreePath(getCurrentPath(), tree));
    }

    private Element here() {
        return trees.getElement(getCurrentPath());
    }

    private static boolean isOwn(Element e) {
        for (Element at = e; at != null; at = at.getEnclosingElement()) {
            if (at.getSimpleName().contentEquals("SyntaxRules")) {
                return true;
            }
        }
        return false;
    }

    private static String nameOf(Element e) {
        return e.getEnclosingElement() + "." + e.getSimpleName();
    }

    /** The names of the face, so that no private method bears one (rule 1). */
    private void face() {
        for (Tree t : unit.getTypeDecls()) {
            for (Tree member : ((ClassTree) t).getMembers()) {
                if (member instanceof MethodTree m && m.getModifiers().getFlags().contains(Modifier.PUBLIC)) {
                    faceNames.add(m.getName().toString());
                }
            }
        }
        Desk.promise = "the face";
        Desk.due("names", faceNames.size(), 30);
        Desk.due("one type", unit.getTypeDecls().size(), 1);
        Desk.due("imports", unit.getImports().size(), 1);
        Desk.due("package", unit.getPackageName() == null, true);
    }

    @Override
    public Void scan(Tree tree, Void v) {
        if (tree != null) {
            rule(2, "no " + tree.getKind(), tree, !BARRED.contains(tree.getKind()));
        }
        return super.scan(tree, v);
    }

    @Override
    public Void visitClass(ClassTree tree, Void v) {
        classes++;
        TypeElement e = (TypeElement) here();
        boolean isFace = e.getSimpleName().contentEquals("SyntaxRules");
        rule(1, "private and static", tree, isFace || e.getModifiers().containsAll(Set.of(Modifier.PRIVATE, Modifier.STATIC)));
        rule(11, "some twelve classes", tree, classes <= MOST_CLASSES);
        int fields = 0;
        for (Element member : e.getEnclosedElements()) {
            boolean isStatic = member.getModifiers().contains(Modifier.STATIC);
            fields += member.getKind() == ElementKind.FIELD && !isStatic ? 1 : 0;
        }
        rule(11, "some twenty fields", tree, fields <= MOST_FIELDS);
        for (Tree member : tree.getMembers()) {
            rule(5, "no initialiser block", member, member.getKind() != Tree.Kind.BLOCK);
        }
        return super.visitClass(tree, v);
    }

    @Override
    public Void visitMethod(MethodTree tree, Void v) {
        ExecutableElement e = (ExecutableElement) here();
        boolean isOuter = e.getEnclosingElement().getSimpleName().contentEquals("SyntaxRules");
        boolean isPublic = e.getModifiers().contains(Modifier.PUBLIC);
        boolean isPrivate = e.getModifiers().contains(Modifier.PRIVATE);
        boolean isConstructor = e.getKind() == ElementKind.CONSTRUCTOR;
        rule(1, "public or private", tree, !isOuter || isPublic || isPrivate);
        rule(1, "not named as one of the face", tree, isPublic || isConstructor || !faceNames.contains(e.getSimpleName().toString()));
        rule(11, "parameters", tree, tree.getParameters().size() <= MOST_PARAMETERS);
        long from = unit.getLineMap().getLineNumber(trees.getSourcePositions().getStartPosition(unit, tree));
        long to = trees.getSourcePositions().getEndPosition(unit, tree) < 0 ? from
            : unit.getLineMap().getLineNumber(trees.getSourcePositions().getEndPosition(unit, tree));
        rule(11, "short", tree, to - from < MOST_LINES);
        boolean mayThrow = isOuter && e.getSimpleName().contentEquals("node");
        rule(6, "throws as the document says", tree, e.getThrownTypes().size() == (mayThrow ? 1 : 0));
        String outer = method;
        method = nameOf(e);
        rule(11, "no two methods of a class with one name", tree, isConstructor || !calls.containsKey(method));
        calls.putIfAbsent(method, new LinkedHashSet<>());
        super.visitMethod(tree, v);
        method = outer;
        return null;
    }

    @Override
    public Void visitMethodInvocation(MethodInvocationTree tree, Void v) {
        Element e = elementOf(tree.getMethodSelect());
        boolean isSuper = tree.getMethodSelect().toString().equals("super");
        if (e != null && isOwn(e)) {
            calls.computeIfAbsent(method, k -> new LinkedHashSet<>()).add(nameOf(e));
        } else if (!isSuper) {
            rule(4, "of the library: " + tree.getMethodSelect(), tree, e != null && LIBRARY.contains(nameOf(e)));
        }
        return super.visitMethodInvocation(tree, v);
    }

    @Override
    public Void visitVariable(VariableTree tree, Void v) {
        VariableElement e = (VariableElement) here();
        rule(3, "type " + e.asType(), tree, isLeft(e.asType()));
        boolean isField = e.getKind() == ElementKind.FIELD;
        if (isField && e.getModifiers().contains(Modifier.STATIC)) {
            rule(5, "a constant", tree, e.getModifiers().contains(Modifier.FINAL) && e.getConstantValue() != null);
        } else if (isField && e.getEnclosingElement().getSimpleName().contentEquals("SyntaxRules")) {
            rule(1, "private", tree, e.getModifiers().contains(Modifier.PRIVATE));
        }
        return super.visitVariable(tree, v);
    }

    /** The types that the program needs of those that rule 3 leaves. */
    private static boolean isLeft(TypeMirror type) {
        if (type.getKind() == TypeKind.ARRAY) {
            TypeMirror of = ((ArrayType) type).getComponentType();
            return of.getKind() != TypeKind.ARRAY && isLeft(of);
        }
        return type.getKind() == TypeKind.INT || type.getKind() == TypeKind.BOOLEAN
            || type.getKind() == TypeKind.DECLARED && type.toString().startsWith("SyntaxRules.");
    }

    @Override
    public Void visitThrow(ThrowTree tree, Void v) {
        rule(6, "where the document says", tree, method.equals("SyntaxRules.node"));
        rule(6, "what the document says", tree, tree.getExpression().toString().equals("new NoSuchElementException()"));
        return super.visitThrow(tree, v);
    }

    @Override
    public Void visitNewClass(NewClassTree tree, Void v) {
        rule(2, "no class without a name", tree, tree.getClassBody() == null);
        rule(12, "made where it may be", tree, mayMake() || method.equals("SyntaxRules.node"));
        return super.visitNewClass(tree, v);
    }

    @Override
    public Void visitNewArray(NewArrayTree tree, Void v) {
        rule(12, "made where it may be", tree, mayMake());
        for (ExpressionTree length : tree.getDimensions()) {
            rule(7, "a length that is a constant", tree, isConstant(length));
        }
        return super.visitNewArray(tree, v);
    }

    /** Fields and constructors make the rows that are used again; a RULE is the one thing that a call makes. */
    private boolean mayMake() {
        return method.isEmpty() || method.endsWith(".<init>") || method.equals("SyntaxRules.RuleReader.read");
    }

    private boolean isConstant(ExpressionTree tree) {
        if (tree instanceof ParenthesizedTree p) {
            return isConstant(p.getExpression());
        }
        if (tree instanceof BinaryTree b) {
            return isConstant(b.getLeftOperand()) && isConstant(b.getRightOperand());
        }
        return tree instanceof LiteralTree || tree instanceof IdentifierTree
            && elementOf(tree) instanceof VariableElement e && e.getConstantValue() != null;
    }

    @Override
    public Void visitBinary(BinaryTree tree, Void v) {
        if (tree.getKind() == Tree.Kind.DIVIDE || tree.getKind() == Tree.Kind.REMAINDER) {
            rule(7, "a divisor that is a constant", tree, isConstant(tree.getRightOperand()));
        }
        return super.visitBinary(tree, v);
    }

    @Override
    public Void visitCompoundAssignment(CompoundAssignmentTree tree, Void v) {
        boolean divides = tree.getKind() == Tree.Kind.DIVIDE_ASSIGNMENT || tree.getKind() == Tree.Kind.REMAINDER_ASSIGNMENT;
        rule(7, "a divisor that is a constant", tree, !divides);
        return super.visitCompoundAssignment(tree, v);
    }

    @Override
    public Void visitTypeCast(TypeCastTree tree, Void v) {
        rule(6, "no cast", tree, false);
        return super.visitTypeCast(tree, v);
    }

    @Override
    public Void visitForLoop(ForLoopTree tree, Void v) {
        rule(9, "one counter", tree, tree.getUpdate().size() == 1 && tree.getCondition() != null);
        if (tree.getUpdate().size() == 1) {
            String counter = changed(tree.getUpdate().get(0).getExpression());
            rule(9, "a counter against a bound", tree, boundOf(tree.getCondition(), counter));
            rule(9, "a counter that nothing else changes", tree, changesOf(tree.getStatement(), counter) == 0);
        }
        return super.visitForLoop(tree, v);
    }

    @Override
    public Void visitWhileLoop(WhileLoopTree tree, Void v) {
        Set<String> counters = new LinkedHashSet<>();
        new TreePathScanner<Void, Void>() {
            @Override
            public Void visitUnary(UnaryTree u, Void w) {
                counters.add(changed(u));
                return super.visitUnary(u, w);
            }
        }.scan(new TreePath(getCurrentPath(), tree.getStatement()), null);
        boolean ends = false;
        for (String c : counters) {
            ends |= boundOf(tree.getCondition(), c) && changesOf(tree.getStatement(), c) == 1;
        }
        rule(9, "a counter against a bound", tree, ends);
        return super.visitWhileLoop(tree, v);
    }

    /** The variable that ++, -- or an assignment changes by a constant; else an empty text. */
    private String changed(Tree tree) {
        if (tree instanceof ExpressionStatementTree s) {
            return changed(s.getExpression());
        }
        if (tree instanceof UnaryTree u && !u.getKind().toString().startsWith("LOGICAL")) {
            return u.getExpression().toString();
        }
        return tree instanceof CompoundAssignmentTree c && isConstant(c.getExpression()) ? c.getVariable().toString() : "";
    }

    /** Whether a condition, or one of those that must all hold, compares the counter. */
    private static boolean boundOf(ExpressionTree condition, String counter) {
        if (condition instanceof ParenthesizedTree p) {
            return boundOf(p.getExpression(), counter);
        }
        if (!(condition instanceof BinaryTree b) || counter.isEmpty()) {
            return false;
        }
        switch (b.getKind()) {
            case CONDITIONAL_AND:
                return boundOf(b.getLeftOperand(), counter) || boundOf(b.getRightOperand(), counter);
            case LESS_THAN:
            case LESS_THAN_EQUAL:
            case GREATER_THAN_EQUAL:
                return b.getLeftOperand().toString().equals(counter);
            default:
                return false;
        }
    }

    private int changesOf(Tree body, String variable) {
        int[] sum = new int[1];
        new TreePathScanner<Void, Void>() {
            private void count(ExpressionTree changed) {
                sum[0] += changed.toString().equals(variable) ? 1 : 0;
            }

            @Override
            public Void visitUnary(UnaryTree u, Void w) {
                String kind = u.getKind().toString();
                if (kind.endsWith("INCREMENT") || kind.endsWith("DECREMENT")) {
                    count(u.getExpression());
                }
                return super.visitUnary(u, w);
            }

            @Override
            public Void visitAssignment(AssignmentTree a, Void w) {
                count(a.getVariable());
                return super.visitAssignment(a, w);
            }

            @Override
            public Void visitCompoundAssignment(CompoundAssignmentTree c, Void w) {
                count(c.getVariable());
                return super.visitCompoundAssignment(c, w);
            }
        }.scan(new TreePath(getCurrentPath(), body), null);
        return sum[0];
    }

    /** No method calls itself, over others neither, and the longest chain of calls is eight deep (rules 8 and 11). */
    private void depth() {
        int deepest = 0;
        for (String m : calls.keySet()) {
            deepest = Math.max(deepest, depthOf(m, new ArrayList<>()));
        }
        Desk.promise = "LANGUAGE.md, rule 11";
        Desk.due("eight deep at most, they are " + deepest, deepest <= MOST_DEEP, true);
        Desk.due("classes", classes <= MOST_CLASSES, true);
        System.out.println(classes + " classes, " + calls.size() + " methods, calls " + deepest + " deep");
    }

    private int depthOf(String m, List<String> open) {
        if (open.contains(m)) {
            Desk.promise = "LANGUAGE.md, rule 8";
            Desk.due("no recursion", open + " " + m, "none");
            return 0;
        }
        if (!depths.containsKey(m)) {
            open.add(m);
            int deepest = 0;
            for (String called : calls.getOrDefault(m, Set.of())) {
                deepest = Math.max(deepest, depthOf(called, open));
            }
            open.remove(open.size() - 1);
            depths.put(m, deepest + 1);
        }
        return depths.get(m);
    }
}
