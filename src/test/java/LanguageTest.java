import com.sun.source.tree.ArrayTypeTree;
import com.sun.source.tree.AssignmentTree;
import com.sun.source.tree.BinaryTree;
import com.sun.source.tree.BlockTree;
import com.sun.source.tree.ClassTree;
import com.sun.source.tree.CompilationUnitTree;
import com.sun.source.tree.CompoundAssignmentTree;
import com.sun.source.tree.ForLoopTree;
import com.sun.source.tree.MemberSelectTree;
import com.sun.source.tree.MethodInvocationTree;
import com.sun.source.tree.MethodTree;
import com.sun.source.tree.NewArrayTree;
import com.sun.source.tree.PrimitiveTypeTree;
import com.sun.source.tree.StatementTree;
import com.sun.source.tree.Tree;
import com.sun.source.tree.Tree.Kind;
import com.sun.source.tree.TypeCastTree;
import com.sun.source.tree.UnaryTree;
import com.sun.source.tree.VariableTree;
import com.sun.source.util.JavacTask;
import com.sun.source.util.SourcePositions;
import com.sun.source.util.TreePath;
import com.sun.source.util.TreePathScanner;
import com.sun.source.util.Trees;
import java.io.IOException;
import java.nio.file.Path;
import java.util.ArrayList;
import java.util.EnumMap;
import java.util.List;
import java.util.Map;
import java.util.Set;
import java.util.TreeMap;
import java.util.TreeSet;
import javax.lang.model.element.Modifier;
import javax.lang.model.type.TypeKind;
import javax.tools.JavaCompiler;
import javax.tools.StandardJavaFileManager;
import javax.tools.ToolProvider;

/**
 * The rules of LANGUAGE.md that the source shows. Where a rule leaves room that the class does not use, the test
 * is narrower than the rule: arrays are final fields made where they are declared, each loop counts to a constant,
 * each divisor is a constant, and no two methods share a name.
 */
public final class LanguageTest extends TreePathScanner<Void, Void> {
    private static final Path SOURCE = Path.of("src/main/java/RelationTuples.java");
    private static final String CONSTANT = "[A-Z][A-Z_]*|[1-9][0-9]*";
    private static final Map<Kind, Integer> RULE_AGAINST = new EnumMap<>(Kind.class);

    static {
        against(1, Kind.PACKAGE, Kind.INTERFACE, Kind.ENUM, Kind.RECORD, Kind.ANNOTATION_TYPE);
        against(2, Kind.STRING_LITERAL, Kind.FLOAT_LITERAL, Kind.DOUBLE_LITERAL, Kind.PARAMETERIZED_TYPE);
        against(3, Kind.IMPORT, Kind.ANNOTATION, Kind.NEW_CLASS);
        against(4, Kind.NULL_LITERAL);
        against(6, Kind.THROW, Kind.TRY, Kind.CATCH, Kind.SYNCHRONIZED, Kind.ASSERT, Kind.INSTANCE_OF);
        against(6, Kind.LAMBDA_EXPRESSION, Kind.MEMBER_REFERENCE);
        against(8, Kind.WHILE_LOOP, Kind.DO_WHILE_LOOP, Kind.ENHANCED_FOR_LOOP);
    }

    private final CompilationUnitTree unit;
    private final SourcePositions positions;
    private final Map<String, Set<String>> callsOf = new TreeMap<>();
    private final List<String> counters = new ArrayList<>();
    private int classes = 0;
    private int fields = 0;

    private LanguageTest(CompilationUnitTree unit, SourcePositions positions) {
        this.unit = unit;
        this.positions = positions;
    }

    private static void against(int rule, Kind... kinds) {
        for (Kind kind : kinds) {
            RULE_AGAINST.put(kind, rule);
        }
    }

    public static void main(String[] args) throws IOException {
        JavaCompiler compiler = ToolProvider.getSystemJavaCompiler();
        try (StandardJavaFileManager files = compiler.getStandardFileManager(null, null, null)) {
            JavacTask task =
                    (JavacTask) compiler.getTask(null, files, null, null, null, files.getJavaFileObjects(SOURCE));
            SourcePositions positions = Trees.instance(task).getSourcePositions();
            for (CompilationUnitTree unit : task.parse()) {
                LanguageTest test = new LanguageTest(unit, positions);
                test.scan(unit, null);
                test.wholeClass();
            }
        }
        Due.end();
    }

    private void wholeClass() {
        Due.answer("rule 1: classes in the file", classes, 1);
        Due.holds("rule 10: at most forty fields beside constants, not " + fields, fields <= 40);
        for (String name : callsOf.keySet()) {
            boolean known = callsOf.keySet().containsAll(callsOf.get(name));
            Due.holds("rule 3: what " + name + " calls is of the class", known);
            Due.holds("rules 8 and 10: calls from " + name + " end, at most six deep", depth(name, 1) <= 6);
        }
    }

    /** Ends even if a method calls itself: a way with more methods than there are is not followed on. */
    private int depth(String name, int above) {
        int deepest = above;
        if (above <= callsOf.size()) {
            for (String called : callsOf.getOrDefault(name, Set.of())) {
                deepest = Math.max(deepest, depth(called, above + 1));
            }
        }
        return deepest;
    }

    private void keeps(int rule, Tree place, boolean truth) {
        long line = unit.getLineMap().getLineNumber(positions.getStartPosition(unit, place));
        Due.holds("rule " + rule + ", line " + line + ": " + place, truth);
    }

    @Override
    public Void scan(Tree tree, Void none) {
        if (tree != null && RULE_AGAINST.containsKey(tree.getKind())) {
            keeps(RULE_AGAINST.get(tree.getKind()), tree, false);
        }
        return super.scan(tree, none);
    }

    @Override
    public Void visitClass(ClassTree tree, Void none) {
        classes++;
        for (Tree member : tree.getMembers()) {
            keeps(5, member, !(member instanceof BlockTree));
        }
        return super.visitClass(tree, none);
    }

    @Override
    public Void visitMethod(MethodTree tree, Void none) {
        // Names that methods share would also blur who calls whom.
        keeps(1, tree, callsOf.put(tree.getName().toString(), new TreeSet<>()) == null);
        keeps(10, tree, tree.getParameters().size() <= 7);
        long first = unit.getLineMap().getLineNumber(positions.getStartPosition(unit, tree));
        long last = unit.getLineMap().getLineNumber(positions.getEndPosition(unit, tree));
        keeps(10, tree, last - first < 60);
        return super.visitMethod(tree, none);
    }

    @Override
    public Void visitVariable(VariableTree tree, Void none) {
        Tree type = tree.getType();
        Set<Modifier> modifiers = tree.getModifiers().getFlags();
        boolean isField = enclosingMethod() == null;
        if (modifiers.contains(Modifier.STATIC)) {
            keeps(5, tree, modifiers.contains(Modifier.FINAL) && type.toString().matches("int|long"));
        } else if (isField) {
            fields++;
        }
        if (isField && type instanceof ArrayTypeTree) {
            keeps(2, tree, isNumber(((ArrayTypeTree) type).getType()));
            // No method can assign to such a field.
            keeps(4, tree, modifiers.contains(Modifier.FINAL) && tree.getInitializer() instanceof NewArrayTree);
        } else {
            keeps(2, tree, isNumber(type));
        }
        return super.visitVariable(tree, none);
    }

    private MethodTree enclosingMethod() {
        for (TreePath path = getCurrentPath(); path != null; path = path.getParentPath()) {
            if (path.getLeaf() instanceof MethodTree) {
                return (MethodTree) path.getLeaf();
            }
        }
        return null;
    }

    /** Whether it is a type of rule 2 that is no array; boolean is one of them. */
    private static boolean isNumber(Tree type) {
        if (!(type instanceof PrimitiveTypeTree)) {
            return false;
        }
        TypeKind kind = ((PrimitiveTypeTree) type).getPrimitiveTypeKind();
        return kind.isPrimitive() && kind != TypeKind.FLOAT && kind != TypeKind.DOUBLE;
    }

    @Override
    public Void visitNewArray(NewArrayTree tree, Void none) {
        keeps(4, tree, enclosingMethod() == null && tree.getInitializers() == null);
        keeps(4, tree, tree.getDimensions().size() == 1 && tree.getDimensions().get(0).toString().matches(CONSTANT));
        return super.visitNewArray(tree, none);
    }

    @Override
    public Void visitTypeCast(TypeCastTree tree, Void none) {
        keeps(6, tree, isNumber(tree.getType()));
        return super.visitTypeCast(tree, none);
    }

    @Override
    public Void visitMemberSelect(MemberSelectTree tree, Void none) {
        keeps(3, tree, tree.getExpression().toString().equals("this") || tree.getIdentifier().contentEquals("length"));
        return super.visitMemberSelect(tree, none);
    }

    @Override
    public Void visitMethodInvocation(MethodInvocationTree tree, Void none) {
        keeps(3, tree, tree.getMethodSelect().getKind() == Kind.IDENTIFIER);
        // In a field's initialiser a call could meet an array that is not made yet.
        keeps(4, tree, enclosingMethod() != null);
        if (enclosingMethod() != null) {
            callsOf.get(enclosingMethod().getName().toString()).add(tree.getMethodSelect().toString());
        }
        for (TreePath path = getCurrentPath().getParentPath(); path != null; path = path.getParentPath()) {
            keeps(10, tree, !(path.getLeaf() instanceof MethodInvocationTree));
        }
        return super.visitMethodInvocation(tree, none);
    }

    @Override
    public Void visitBinary(BinaryTree tree, Void none) {
        if (tree.getKind() == Kind.DIVIDE || tree.getKind() == Kind.REMAINDER) {
            keeps(7, tree, tree.getRightOperand().toString().matches(CONSTANT));
        }
        return super.visitBinary(tree, none);
    }

    @Override
    public Void visitForLoop(ForLoopTree tree, Void none) {
        String counter = counterOf(tree.getInitializer());
        String head = tree.getCondition() + " " + tree.getUpdate();
        boolean rises = head.matches("\\(?" + counter + " < (" + CONSTANT + ")\\)? " + counter + "\\+\\+;");
        boolean falls = head.matches("\\(?" + counter + " >= 0\\)? " + counter + "--;");
        keeps(8, tree, rises || falls);
        scan(tree.getInitializer(), none);
        scan(tree.getCondition(), none);
        counters.add(counter);
        scan(tree.getStatement(), none);
        counters.remove(counter);
        return null;
    }

    private static String counterOf(List<? extends StatementTree> initializer) {
        boolean declaresOne = initializer.size() == 1 && initializer.get(0) instanceof VariableTree;
        return declaresOne ? ((VariableTree) initializer.get(0)).getName().toString() : "no counter";
    }

    private void assigned(Tree tree, Tree variable) {
        keeps(8, tree, !counters.contains(variable.toString()));
    }

    @Override
    public Void visitAssignment(AssignmentTree tree, Void none) {
        assigned(tree, tree.getVariable());
        return super.visitAssignment(tree, none);
    }

    @Override
    public Void visitCompoundAssignment(CompoundAssignmentTree tree, Void none) {
        boolean divides = tree.getKind() == Kind.DIVIDE_ASSIGNMENT || tree.getKind() == Kind.REMAINDER_ASSIGNMENT;
        keeps(7, tree, !divides || tree.getExpression().toString().matches(CONSTANT));
        assigned(tree, tree.getVariable());
        return super.visitCompoundAssignment(tree, none);
    }

    @Override
    public Void visitUnary(UnaryTree tree, Void none) {
        boolean steps = tree.getKind().name().endsWith("CREMENT");
        assigned(tree, steps ? tree.getExpression() : tree);
        return super.visitUnary(tree, none);
    }
}
