import static java.util.Map.entry;

import com.sun.source.tree.ArrayAccessTree;
import com.sun.source.tree.ArrayTypeTree;
import com.sun.source.tree.BinaryTree;
import com.sun.source.tree.BlockTree;
import com.sun.source.tree.ClassTree;
import com.sun.source.tree.CompilationUnitTree;
import com.sun.source.tree.ExpressionTree;
import com.sun.source.tree.ForLoopTree;
import com.sun.source.tree.IdentifierTree;
import com.sun.source.tree.MemberSelectTree;
import com.sun.source.tree.MethodInvocationTree;
import com.sun.source.tree.MethodTree;
import com.sun.source.tree.NewArrayTree;
import com.sun.source.tree.PrimitiveTypeTree;
import com.sun.source.tree.StatementTree;
import com.sun.source.tree.Tree;
import com.sun.source.tree.TypeCastTree;
import com.sun.source.tree.VariableTree;
import com.sun.source.util.JavacTask;
import com.sun.source.util.TreePath;
import com.sun.source.util.TreePathScanner;
import com.sun.source.util.TreeScanner;
import com.sun.source.util.Trees;
import java.io.IOException;
import java.net.URI;
import java.util.ArrayList;
import java.util.HashSet;
import java.util.List;
import java.util.Map;
import java.util.Set;
import java.util.TreeMap;
import java.util.TreeSet;
import java.util.regex.Pattern;
import javax.lang.model.element.Modifier;
import javax.lang.model.type.TypeKind;
import javax.tools.JavaCompiler;
import javax.tools.JavaFileObject;
import javax.tools.SimpleJavaFileObject;
import javax.tools.ToolProvider;

/**
 * Looks for what LANGUAGE.md forbids in a source text, which must compile. It is stricter than the rules where that is
 * simpler: a loop must count up to a constant, an array is made in a field's initialiser, and its name may only be indexed,
 * asked for its length or handed on.
 * Rule 7 (no call throws) cannot be seen here; rule 11 follows from rule 3.
 */
final class LanguageRules extends TreePathScanner<Void, Void> {
    private static final Set<String> FACE = new HashSet<>(Pair.METHODS);
    private static final Set<TypeKind> NO_TYPES = Set.of(TypeKind.FLOAT, TypeKind.DOUBLE);
    /** What is forbidden wherever it stands, with the rule that forbids it. */
    private static final Map<Tree.Kind, Integer> FORBIDDEN = Map.ofEntries(
        entry(Tree.Kind.STRING_LITERAL, 2), entry(Tree.Kind.FLOAT_LITERAL, 2), entry(Tree.Kind.DOUBLE_LITERAL, 2),
        entry(Tree.Kind.NEW_CLASS, 2), entry(Tree.Kind.NULL_LITERAL, 4),
        entry(Tree.Kind.THROW, 6), entry(Tree.Kind.TRY, 6), entry(Tree.Kind.SYNCHRONIZED, 6), entry(Tree.Kind.ASSERT, 6),
        entry(Tree.Kind.INSTANCE_OF, 6), entry(Tree.Kind.LAMBDA_EXPRESSION, 6), entry(Tree.Kind.MEMBER_REFERENCE, 6),
        entry(Tree.Kind.WHILE_LOOP, 8), entry(Tree.Kind.DO_WHILE_LOOP, 8), entry(Tree.Kind.ENHANCED_FOR_LOOP, 8));
    private static final int MOST_PARAMETERS = 7;
    private static final int MOST_LINES = 60;
    private static final int MOST_DEPTH = 6;
    private static final int MOST_FIELDS = 40;

    private final CompilationUnitTree unit;
    private final Trees trees;
    private final List<String> broken = new ArrayList<>();
    private final Set<String> names = new HashSet<>(Set.of("this"));
    private final Set<String> constants = new HashSet<>();
    private final Set<String> arrays = new HashSet<>();
    private final Set<String> methods = new HashSet<>();
    private final Map<String, Set<String>> calls = new TreeMap<>();

    private LanguageRules(CompilationUnitTree unit, Trees trees) {
        this.unit = unit;
        this.trees = trees;
    }

    /** A line for each place that breaks a rule; each begins with the rule's number. */
    static List<String> brokenIn(String source) throws IOException {
        JavaFileObject file = new SimpleJavaFileObject(URI.create("string:///CausalObjects.java"), JavaFileObject.Kind.SOURCE) {
            @Override
            public CharSequence getCharContent(boolean ignoreErrors) {
                return source;
            }
        };
        JavaCompiler compiler = ToolProvider.getSystemJavaCompiler();
        JavacTask task = (JavacTask) compiler.getTask(null, null, null, List.of("--release", "17"), null, List.of(file));
        LanguageRules rules = new LanguageRules(task.parse().iterator().next(), Trees.instance(task));
        rules.collectNames();
        rules.scan(rules.unit, null);
        rules.depths();
        return rules.broken;
    }

    private void breaks(int rule, Tree at, String what) {
        broken.add("rule " + rule + ", line " + unit.getLineMap().getLineNumber(start(at)) + ": " + what);
    }

    private long start(Tree tree) {
        return trees.getSourcePositions().getStartPosition(unit, tree);
    }

    private long end(Tree tree) {
        return trees.getSourcePositions().getEndPosition(unit, tree);
    }

    private void collectNames() {
        new TreeScanner<Void, Void>() {
            @Override
            public Void visitVariable(VariableTree variable, Void unused) {
                String name = variable.getName().toString();
                names.add(name);
                if (variable.getType() instanceof ArrayTypeTree) {
                    arrays.add(name);
                }
                if (variable.getModifiers().getFlags().containsAll(Set.of(Modifier.STATIC, Modifier.FINAL))) {
                    constants.add(name);
                }
                return super.visitVariable(variable, unused);
            }

            @Override
            public Void visitMethod(MethodTree method, Void unused) {
                methods.add(method.getName().toString());
                return super.visitMethod(method, unused);
            }
        }.scan(unit, null);
    }

    private static boolean isConstructor(Tree tree) {
        return tree instanceof MethodTree && ((MethodTree) tree).getReturnType() == null;
    }

    private Tree parent() {
        return getCurrentPath().getParentPath().getLeaf();
    }

    @Override
    public Void scan(Tree tree, Void unused) {
        if (tree != null && FORBIDDEN.containsKey(tree.getKind())) {
            breaks(FORBIDDEN.get(tree.getKind()), tree, tree.getKind() + "");
        }
        return super.scan(tree, unused);
    }

    @Override
    public Void visitCompilationUnit(CompilationUnitTree tree, Void unused) {
        if (tree.getPackage() != null || tree.getTypeDecls().size() != 1) {
            breaks(1, tree, "a package, or not just one class");
        }
        if (!tree.getImports().isEmpty()) {
            breaks(3, tree, "an import");
        }
        return super.visitCompilationUnit(tree, unused);
    }

    @Override
    public Void visitClass(ClassTree tree, Void unused) {
        if (!(parent() instanceof CompilationUnitTree)) {
            breaks(1, tree, "a nested class");
        } else if (tree.getKind() != Tree.Kind.CLASS || !tree.getSimpleName().contentEquals("CausalObjects")
                || !tree.getModifiers().getFlags().equals(Set.of(Modifier.PUBLIC, Modifier.FINAL))
                || tree.getExtendsClause() != null || !tree.getImplementsClause().isEmpty()) {
            breaks(1, tree, "not the document's class");
        }
        long fields = tree.getMembers().stream().filter(this::isStateField).count();
        if (fields > MOST_FIELDS) {
            breaks(10, tree, fields + " fields");
        }
        return super.visitClass(tree, unused);
    }

    private boolean isStateField(Tree member) {
        return member instanceof VariableTree && !constants.contains(((VariableTree) member).getName().toString());
    }

    @Override
    public Void visitBlock(BlockTree tree, Void unused) {
        if (tree.isStatic()) {
            breaks(5, tree, "a static initialiser");
        }
        return super.visitBlock(tree, unused);
    }

    @Override
    public Void visitMethod(MethodTree tree, Void unused) {
        String name = tree.getName().toString();
        Set<Modifier> flags = tree.getModifiers().getFlags();
        boolean open = isConstructor(tree) || FACE.contains(name);
        if (!flags.contains(open ? Modifier.PUBLIC : Modifier.PRIVATE)) {
            breaks(1, tree, name + " is not as open as the document has it");
        }
        if (flags.contains(Modifier.SYNCHRONIZED)) {
            breaks(6, tree, name + " is synchronized");
        }
        if (tree.getReturnType() instanceof ArrayTypeTree) {
            breaks(4, tree, name + " answers an array");
        }
        if (tree.getParameters().size() > MOST_PARAMETERS) {
            breaks(10, tree, name + " has too many parameters");
        }
        long lines = unit.getLineMap().getLineNumber(end(tree)) - unit.getLineMap().getLineNumber(start(tree)) + 1;
        if (lines > MOST_LINES) {
            breaks(10, tree, name + " has " + lines + " lines");
        }
        return super.visitMethod(tree, unused);
    }

    @Override
    public Void visitVariable(VariableTree tree, Void unused) {
        Set<Modifier> flags = tree.getModifiers().getFlags();
        Tree type = tree.getType();
        Tree of = type instanceof ArrayTypeTree ? ((ArrayTypeTree) type).getType() : type;
        if (!(of instanceof PrimitiveTypeTree)) {
            breaks(2, tree, tree.getName() + " is of another type");
        }
        if (parent() instanceof ClassTree && !flags.contains(Modifier.PRIVATE)) {
            breaks(1, tree, tree.getName() + " is not private");
        }
        if (flags.contains(Modifier.STATIC) && !isConstant(tree)) {
            breaks(5, tree, tree.getName() + " is static, but no constant");
        }
        return super.visitVariable(tree, unused);
    }

    private boolean isConstant(VariableTree tree) {
        Tree type = tree.getType();
        boolean number = type instanceof PrimitiveTypeTree
            && Set.of(TypeKind.INT, TypeKind.LONG).contains(((PrimitiveTypeTree) type).getPrimitiveTypeKind());
        return number && constants.contains(tree.getName().toString()) && tree.getInitializer() != null;
    }

    @Override
    public Void visitPrimitiveType(PrimitiveTypeTree tree, Void unused) {
        if (NO_TYPES.contains(tree.getPrimitiveTypeKind())) {
            breaks(2, tree, "a float or double");
        }
        return super.visitPrimitiveType(tree, unused);
    }

    @Override
    public Void visitIdentifier(IdentifierTree tree, Void unused) {
        String name = tree.getName().toString();
        if (!names.contains(name) && !methods.contains(name)) {
            breaks(3, tree, name + " comes from elsewhere");
        }
        if (arrays.contains(name) && !isPlainUseOfArray(tree)) {
            breaks(4, tree, "the array " + name + " is answered, compared or assigned");
        }
        return super.visitIdentifier(tree, unused);
    }

    private boolean isPlainUseOfArray(Tree array) {
        Tree use = parent();
        return use instanceof ArrayAccessTree && ((ArrayAccessTree) use).getExpression() == array
            || use instanceof MemberSelectTree
            || use instanceof MethodInvocationTree && ((MethodInvocationTree) use).getArguments().contains(array);
    }

    @Override
    public Void visitMemberSelect(MemberSelectTree tree, Void unused) {
        boolean length = tree.getIdentifier().contentEquals("length") && arrays.contains(tree.getExpression().toString());
        if (!length) {
            breaks(3, tree, tree + " is no array's length");
        }
        return super.visitMemberSelect(tree, unused);
    }

    @Override
    public Void visitNewArray(NewArrayTree tree, Void unused) {
        boolean plain = tree.getInitializers() == null && tree.getDimensions().size() == 1 && isLength(tree.getDimensions().get(0));
        if (!plain) {
            breaks(4, tree, "an array without a constant length");
        }
        if (!isFieldInitialiser()) {
            breaks(4, tree, "an array made elsewhere than in a field's initialiser");
        }
        return super.visitNewArray(tree, unused);
    }

    private boolean isLength(ExpressionTree length) {
        return constants.contains(length.toString()) || length.toString().matches("[1-9][0-9]*");
    }

    private boolean isFieldInitialiser() {
        return parent() instanceof VariableTree && getCurrentPath().getParentPath().getParentPath().getLeaf() instanceof ClassTree;
    }

    @Override
    public Void visitMethodInvocation(MethodInvocationTree tree, Void unused) {
        String name = tree.getMethodSelect().toString();
        if (!methods.contains(name)) {
            breaks(3, tree, "calls " + name);
        }
        if (isInsideArguments()) {
            breaks(10, tree, name + " is called inside the arguments of a call");
        }
        calls.computeIfAbsent(caller(), key -> new TreeSet<>()).add(name);
        return super.visitMethodInvocation(tree, unused);
    }

    private boolean isInsideArguments() {
        TreePath path = getCurrentPath().getParentPath();
        while (path.getLeaf() instanceof ExpressionTree) {
            if (path.getLeaf() instanceof MethodInvocationTree) {
                return true;
            }
            path = path.getParentPath();
        }
        return false;
    }

    private String caller() {
        TreePath path = getCurrentPath();
        while (!(path.getLeaf() instanceof MethodTree) && !(path.getLeaf() instanceof ClassTree)) {
            path = path.getParentPath();
        }
        return path.getLeaf() instanceof MethodTree ? ((MethodTree) path.getLeaf()).getName().toString() : "<init>";
    }

    /** Takes away the methods that call only such as were taken away before; what recurs is left over. */
    private void depths() {
        Set<String> left = new TreeSet<>(methods);
        int depth = 0;
        boolean some = true;
        while (some) {
            Set<String> waiting = new TreeSet<>(left);
            some = left.removeIf(name -> calls.getOrDefault(name, Set.of()).stream().noneMatch(waiting::contains));
            depth += some ? 1 : 0;
        }
        if (!left.isEmpty()) {
            breaks(8, unit, "recursion among " + left);
        }
        if (depth > MOST_DEPTH) {
            breaks(10, unit, "calls go " + depth + " deep");
        }
    }

    @Override
    public Void visitForLoop(ForLoopTree tree, Void unused) {
        String counter = counterOf(tree);
        if (counter == null || isSet(counter, tree.getStatement())) {
            breaks(8, tree, "a loop that does not just count up to a constant");
        }
        return super.visitForLoop(tree, unused);
    }

    private String counterOf(ForLoopTree tree) {
        List<? extends StatementTree> first = tree.getInitializer();
        if (first.size() != 1 || !(first.get(0) instanceof VariableTree) || !(tree.getCondition() instanceof BinaryTree)
                || tree.getUpdate().size() != 1) {
            return null;
        }
        String counter = ((VariableTree) first.get(0)).getName().toString();
        BinaryTree condition = (BinaryTree) tree.getCondition();
        boolean counts = condition.getKind() == Tree.Kind.LESS_THAN
            && condition.getLeftOperand().toString().equals(counter)
            && isLength(condition.getRightOperand())
            && tree.getUpdate().get(0).getExpression().toString().equals(counter + "++");
        return counts ? counter : null;
    }

    private static boolean isSet(String name, Tree body) {
        String steps = "(\\+\\+|--)" + name + "\\b|\\b" + name + "(\\+\\+|--)";
        String assigns = "\\b" + name + " ([-+*/%&|^]|<<|>>>?)?= ";
        return Pattern.compile(steps + "|" + assigns).matcher(body.toString()).find();
    }

    @Override
    public Void visitTypeCast(TypeCastTree tree, Void unused) {
        if (!(tree.getType() instanceof PrimitiveTypeTree)) {
            breaks(6, tree, "a cast of a reference");
        }
        return super.visitTypeCast(tree, unused);
    }
}
