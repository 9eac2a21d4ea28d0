import com.sun.source.tree.ArrayTypeTree;
import com.sun.source.tree.AssignmentTree;
import com.sun.source.tree.BinaryTree;
import com.sun.source.tree.ClassTree;
import com.sun.source.tree.CompilationUnitTree;
import com.sun.source.tree.CompoundAssignmentTree;
import com.sun.source.tree.DoWhileLoopTree;
import com.sun.source.tree.EnhancedForLoopTree;
import com.sun.source.tree.ExpressionStatementTree;
import com.sun.source.tree.ExpressionTree;
import com.sun.source.tree.ForLoopTree;
import com.sun.source.tree.IdentifierTree;
import com.sun.source.tree.ImportTree;
import com.sun.source.tree.LiteralTree;
import com.sun.source.tree.MemberSelectTree;
import com.sun.source.tree.MethodInvocationTree;
import com.sun.source.tree.MethodTree;
import com.sun.source.tree.NewArrayTree;
import com.sun.source.tree.StatementTree;
import com.sun.source.tree.Tree;
import com.sun.source.tree.UnaryTree;
import com.sun.source.tree.VariableTree;
import com.sun.source.tree.WhileLoopTree;
import com.sun.source.util.JavacTask;
import com.sun.source.util.SourcePositions;
import com.sun.source.util.TreePath;
import com.sun.source.util.TreePathScanner;
import com.sun.source.util.TreeScanner;
import com.sun.source.util.Trees;
import java.io.File;
import java.io.IOException;
import java.util.EnumSet;
import java.util.HashMap;
import java.util.HashSet;
import java.util.List;
import java.util.Map;
import java.util.Set;
import java.util.TreeMap;
import java.util.TreeSet;
import javax.lang.model.element.Modifier;
import javax.lang.model.element.VariableElement;
import javax.lang.model.type.TypeKind;
import javax.tools.JavaCompiler;
import javax.tools.StandardJavaFileManager;
import javax.tools.ToolProvider;

/**
 * The class's source keeps to LANGUAGE.md, as far as its form tells it. What is printed begins with the number of the
 * rule. The file may be told as an argument, so that a copy with a fault in it can be tried; .ci/run tells none.
 */
public final class LanguageTest extends TreePathScanner<Void, Void> {
    private static final Set<Tree.Kind> RULED_OUT = EnumSet.of(Tree.Kind.THROW, Tree.Kind.TRY, Tree.Kind.SYNCHRONIZED,
            Tree.Kind.ASSERT, Tree.Kind.INSTANCE_OF, Tree.Kind.LAMBDA_EXPRESSION, Tree.Kind.MEMBER_REFERENCE);
    private static final Set<TypeKind> NUMBERS = EnumSet.of(TypeKind.INT, TypeKind.LONG, TypeKind.SHORT, TypeKind.BYTE,
            TypeKind.CHAR, TypeKind.BOOLEAN);
    private static final Set<Tree.Kind> COMPARISONS = EnumSet.of(Tree.Kind.LESS_THAN, Tree.Kind.LESS_THAN_EQUAL,
            Tree.Kind.GREATER_THAN, Tree.Kind.GREATER_THAN_EQUAL);
    private static final Set<Tree.Kind> MOVES = EnumSet.of(Tree.Kind.POSTFIX_INCREMENT, Tree.Kind.PREFIX_INCREMENT,
            Tree.Kind.POSTFIX_DECREMENT, Tree.Kind.PREFIX_DECREMENT);
    private static final int LONGEST = 60;
    private static final int DEEPEST = 6;

    private final Trees trees;
    private final SourcePositions places;
    private final CompilationUnitTree unit;
    private final Map<String, Set<String>> calls = new TreeMap<>();
    private final Map<String, Integer> depths = new HashMap<>();
    private String method = "";
    private int wrong = 0;
    private int classes = 0;
    private int fields = 0;

    private LanguageTest(Trees trees, CompilationUnitTree unit) {
        this.trees = trees;
        this.places = trees.getSourcePositions();
        this.unit = unit;
    }

    private long lineOf(long place) {
        return unit.getLineMap().getLineNumber(place);
    }

    private void must(boolean holds, int rule, Tree tree, String what) {
        if (!holds) {
            wrong++;
            long line = lineOf(places.getStartPosition(unit, tree));
            System.out.println("rule " + rule + ", line " + line + ": " + what);
        }
    }

    private boolean isField() {
        return getCurrentPath().getParentPath().getLeaf() instanceof ClassTree;
    }

    @Override
    public Void scan(Tree tree, Void none) {
        if (tree != null) {
            must(!RULED_OUT.contains(tree.getKind()), 6, tree, "no " + tree.getKind());
            must(tree.getKind() != Tree.Kind.NEW_CLASS, 4, tree, "no object is made");
        }
        return super.scan(tree, none);
    }

    // Rules 1 to 3: what stands there at all.

    @Override
    public Void visitClass(ClassTree tree, Void none) {
        classes++;
        must(classes == 1, 1, tree, "one class");
        must(tree.getExtendsClause() == null && tree.getImplementsClause().isEmpty(), 3, tree, "no class above it");
        return super.visitClass(tree, none);
    }

    @Override
    public Void visitImport(ImportTree tree, Void none) {
        must(false, 3, tree, "nothing is imported");
        return null;
    }

    @Override
    public Void visitMemberSelect(MemberSelectTree tree, Void none) {
        boolean own = tree.getExpression().toString().equals("this");
        must(own || tree.getIdentifier().contentEquals("length"), 3, tree, "no member of another class: " + tree);
        return super.visitMemberSelect(tree, none);
    }

    @Override
    public Void visitLiteral(LiteralTree tree, Void none) {
        Tree.Kind kind = tree.getKind();
        must(kind != Tree.Kind.STRING_LITERAL, 2, tree, "no String");
        must(kind != Tree.Kind.FLOAT_LITERAL && kind != Tree.Kind.DOUBLE_LITERAL, 2, tree, "no float or double");
        must(kind != Tree.Kind.NULL_LITERAL, 4, tree, "no null");
        return super.visitLiteral(tree, none);
    }

    private boolean isOfNumbers(Tree type) {
        Tree inner = type instanceof ArrayTypeTree ? ((ArrayTypeTree) type).getType() : type;
        return inner != null && NUMBERS.contains(trees.getTypeMirror(new TreePath(getCurrentPath(), inner)).getKind());
    }

    @Override
    public Void visitVariable(VariableTree tree, Void none) {
        must(isOfNumbers(tree.getType()), 2, tree, "numbers and their arrays alone: " + tree);
        boolean fixed = tree.getModifiers().getFlags().contains(Modifier.STATIC);
        if (fixed) {
            VariableElement constant = (VariableElement) trees.getElement(getCurrentPath());
            must(constant.getConstantValue() != null, 5, tree, tree.getName() + " is a constant");
        } else if (isField()) {
            fields++;
            // A final array can't be assigned to by a method.
            boolean isFinal = tree.getModifiers().getFlags().contains(Modifier.FINAL);
            boolean held = isFinal || !(tree.getType() instanceof ArrayTypeTree);
            must(held, 4, tree, tree.getName() + " is the same array for ever");
        }
        return super.visitVariable(tree, none);
    }

    // Rule 4: arrays.

    @Override
    public Void visitNewArray(NewArrayTree tree, Void none) {
        TreePath holder = getCurrentPath().getParentPath();
        boolean atField = holder.getLeaf() instanceof VariableTree && holder.getParentPath().getLeaf() instanceof ClassTree;
        must(atField, 4, tree, "an array is made in a field's initialiser");
        boolean plain = tree.getInitializers() == null && tree.getDimensions().size() == 1;
        must(plain, 4, tree, "an array is made with one length");
        for (ExpressionTree length : tree.getDimensions()) {
            boolean constant = length instanceof LiteralTree || isConstant(new TreePath(getCurrentPath(), length));
            must(constant, 4, tree, "a length is a literal or a constant: " + length);
        }
        return super.visitNewArray(tree, none);
    }

    private boolean isConstant(TreePath path) {
        return path.getLeaf() instanceof IdentifierTree
                && trees.getElement(path) instanceof VariableElement
                && ((VariableElement) trees.getElement(path)).getConstantValue() != null;
    }

    // Rules 8 and 10: loops, methods and calls.

    @Override
    public Void visitWhileLoop(WhileLoopTree tree, Void none) {
        must(false, 8, tree, "every loop here is a for with a counter");
        return super.visitWhileLoop(tree, none);
    }

    @Override
    public Void visitDoWhileLoop(DoWhileLoopTree tree, Void none) {
        must(false, 8, tree, "every loop here is a for with a counter");
        return super.visitDoWhileLoop(tree, none);
    }

    @Override
    public Void visitEnhancedForLoop(EnhancedForLoopTree tree, Void none) {
        must(false, 8, tree, "every loop here is a for with a counter");
        return super.visitEnhancedForLoop(tree, none);
    }

    /** The counter stands at the head, is held against a constant there, moves there by one, and nowhere else. */
    @Override
    public Void visitForLoop(ForLoopTree tree, Void none) {
        List<? extends StatementTree> heads = tree.getInitializer();
        List<? extends ExpressionStatementTree> moves = tree.getUpdate();
        boolean counted = heads.size() == 1 && heads.get(0) instanceof VariableTree && moves.size() == 1
                && moves.get(0).getExpression() instanceof UnaryTree;
        must(counted, 8, tree, "a loop has one counter that moves by one");
        if (counted) {
            String counter = ((VariableTree) heads.get(0)).getName().toString();
            UnaryTree move = (UnaryTree) moves.get(0).getExpression();
            must(move.getExpression().toString().equals(counter), 8, tree, "it is " + counter + " that moves");
            must(MOVES.contains(move.getKind()), 8, tree, counter + " moves by one");
            boolean up = move.getKind() == Tree.Kind.POSTFIX_INCREMENT || move.getKind() == Tree.Kind.PREFIX_INCREMENT;
            must(isBounded(tree.getCondition(), counter, up), 8, tree, counter + " is held against a bound");
            must(!movesIn(tree.getStatement(), counter), 8, tree, counter + " is moved at the loop's head alone");
        }
        return super.visitForLoop(tree, none);
    }

    private boolean isBounded(ExpressionTree condition, String counter, boolean up) {
        if (!(condition instanceof BinaryTree)) {
            return false;
        }
        BinaryTree both = (BinaryTree) condition;
        if (both.getKind() == Tree.Kind.CONDITIONAL_AND) {
            return isBounded(both.getLeftOperand(), counter, up) || isBounded(both.getRightOperand(), counter, up);
        }
        boolean below = both.getKind() == Tree.Kind.LESS_THAN || both.getKind() == Tree.Kind.LESS_THAN_EQUAL;
        boolean ofCounter = both.getLeftOperand().toString().equals(counter);
        boolean againstConstant = both.getRightOperand().toString().matches("[A-Z0-9_ *+-]+");
        return COMPARISONS.contains(both.getKind()) && below == up && ofCounter && againstConstant;
    }

    private static boolean movesIn(Tree body, String name) {
        boolean[] found = {false};
        new TreeScanner<Void, Void>() {
            @Override
            public Void visitAssignment(AssignmentTree tree, Void none) {
                found[0] |= tree.getVariable().toString().equals(name);
                return super.visitAssignment(tree, none);
            }

            @Override
            public Void visitCompoundAssignment(CompoundAssignmentTree tree, Void none) {
                found[0] |= tree.getVariable().toString().equals(name);
                return super.visitCompoundAssignment(tree, none);
            }

            @Override
            public Void visitUnary(UnaryTree tree, Void none) {
                found[0] |= MOVES.contains(tree.getKind()) && tree.getExpression().toString().equals(name);
                return super.visitUnary(tree, none);
            }
        }.scan(body, null);
        return found[0];
    }

    @Override
    public Void visitMethod(MethodTree tree, Void none) {
        method = tree.getName().toString();
        must(!calls.containsKey(method), 1, tree, "each name once: " + method);
        calls.put(method, new TreeSet<>());
        must(tree.getParameters().size() <= 7, 10, tree, method + " takes seven parameters at most");
        long first = lineOf(places.getStartPosition(unit, tree));
        long last = lineOf(places.getEndPosition(unit, tree));
        must(last - first < LONGEST, 10, tree, method + " is " + (last - first + 1) + " lines long");
        must(!(tree.getReturnType() instanceof ArrayTypeTree), 4, tree, method + " answers an array");
        return super.visitMethod(tree, none);
    }

    @Override
    public Void visitMethodInvocation(MethodInvocationTree tree, Void none) {
        String called = tree.getMethodSelect().toString();
        if (!called.equals("super")) {
            calls.get(method).add(called);
        }
        for (ExpressionTree argument : tree.getArguments()) {
            must(!callsIn(argument), 10, tree, "no call inside a call's arguments: " + tree);
        }
        return super.visitMethodInvocation(tree, none);
    }

    private static boolean callsIn(Tree argument) {
        boolean[] found = {false};
        new TreeScanner<Void, Void>() {
            @Override
            public Void visitMethodInvocation(MethodInvocationTree tree, Void none) {
                found[0] = true;
                return null;
            }
        }.scan(argument, null);
        return found[0];
    }

    /** How many methods stand in the longest chain of calls that begins with this one. */
    private int depthOf(String name, Set<String> above) {
        if (depths.containsKey(name)) {
            return depths.get(name);
        }
        if (!calls.containsKey(name) || !above.add(name)) {
            wrong++;
            boolean own = calls.containsKey(name);
            System.out.println(own ? "rule 8: recursion through " + name : "rule 3: no method of its own, " + name);
            return 1;
        }
        int deepest = 0;
        for (String next : calls.get(name)) {
            deepest = Math.max(deepest, depthOf(next, above));
        }
        above.remove(name);
        depths.put(name, deepest + 1);
        return deepest + 1;
    }

    private void whole(CompilationUnitTree tree) {
        must(tree.getPackageName() == null, 1, tree, "no package");
        scan(tree, null);
        must(classes == 1, 1, tree, "one class");
        must(fields <= 40, 10, tree, fields + " fields");
        must(calls.size() > 15, 1, tree, "the class has its methods");
        for (String name : calls.keySet()) {
            int depth = depthOf(name, new HashSet<>());
            must(depth <= DEEPEST, 10, tree, name + " begins a chain of " + depth + " methods");
        }
    }

    public static void main(String[] args) throws IOException {
        File source = new File(args.length > 0 ? args[0] : "src/main/java/FlowSuite.java");
        JavaCompiler compiler = ToolProvider.getSystemJavaCompiler();
        StandardJavaFileManager files = compiler.getStandardFileManager(null, null, null);
        JavacTask task = (JavacTask) compiler.getTask(null, files, null, List.of("--release", "17", "-proc:none"), null,
                files.getJavaFileObjects(source));
        CompilationUnitTree unit = task.parse().iterator().next();
        task.analyze();
        LanguageTest test = new LanguageTest(Trees.instance(task), unit);
        test.whole(unit);
        System.out.println(test.wrong == 0 ? "the source is as due" : test.wrong + " things are not as due");
        if (test.wrong != 0) {
            System.exit(1);
        }
    }
}
