import com.sun.source.tree.ArrayTypeTree;
import com.sun.source.tree.AssignmentTree;
import com.sun.source.tree.BinaryTree;
import com.sun.source.tree.ClassTree;
import com.sun.source.tree.CompilationUnitTree;
import com.sun.source.tree.CompoundAssignmentTree;
import com.sun.source.tree.ExpressionTree;
import com.sun.source.tree.ForLoopTree;
import com.sun.source.tree.IdentifierTree;
import com.sun.source.tree.LiteralTree;
import com.sun.source.tree.MethodInvocationTree;
import com.sun.source.tree.MethodTree;
import com.sun.source.tree.NewArrayTree;
import com.sun.source.tree.PrimitiveTypeTree;
import com.sun.source.tree.Tree;
import com.sun.source.tree.TypeCastTree;
import com.sun.source.tree.UnaryTree;
import com.sun.source.tree.VariableTree;
import com.sun.source.util.JavacTask;
import com.sun.source.util.SourcePositions;
import com.sun.source.util.TreeScanner;
import com.sun.source.util.Trees;
import java.io.File;
import java.io.IOException;
import java.util.EnumSet;
import java.util.HashMap;
import java.util.HashSet;
import java.util.List;
import java.util.Map;
import java.util.Set;
import java.util.TreeSet;
import javax.lang.model.element.Modifier;
import javax.lang.model.type.TypeKind;
import javax.tools.JavaCompiler;
import javax.tools.StandardJavaFileManager;
import javax.tools.ToolProvider;

/** The rules of LANGUAGE.md that can be read off the source; some are held more narrowly than they are written. */
public final class RulesTest {
    private static final Due DUE = new Due();
    private static final String SOURCE = "src/main/java/ConnectivitySuite.java";
    private static final int MOST_PARAMETERS = 7;
    private static final int MOST_METHOD_LINES = 60;
    private static final int MOST_DEPTH = 6;
    private static final int MOST_FIELDS = 40;
    private static final Set<TypeKind> TYPES = EnumSet.of(TypeKind.INT, TypeKind.LONG, TypeKind.SHORT,
        TypeKind.BYTE, TypeKind.CHAR, TypeKind.BOOLEAN);
    private static final Set<Tree.Kind> NEVER = EnumSet.of(Tree.Kind.THROW, Tree.Kind.TRY, Tree.Kind.CATCH,
        Tree.Kind.SYNCHRONIZED, Tree.Kind.ASSERT, Tree.Kind.INSTANCE_OF, Tree.Kind.LAMBDA_EXPRESSION,
        Tree.Kind.MEMBER_REFERENCE, Tree.Kind.NEW_CLASS, Tree.Kind.NULL_LITERAL, Tree.Kind.STRING_LITERAL,
        Tree.Kind.FLOAT_LITERAL, Tree.Kind.DOUBLE_LITERAL, Tree.Kind.MEMBER_SELECT, Tree.Kind.ANNOTATION,
        Tree.Kind.PARAMETERIZED_TYPE, Tree.Kind.ENHANCED_FOR_LOOP, Tree.Kind.WHILE_LOOP, Tree.Kind.DO_WHILE_LOOP);

    private final CompilationUnitTree unit;
    private final SourcePositions positions;
    private final ClassTree body;
    private final Map<String, MethodTree> methods = new HashMap<>();
    private final Map<String, VariableTree> fields = new HashMap<>();

    private RulesTest(JavacTask task, CompilationUnitTree unit) {
        this.unit = unit;
        this.positions = Trees.instance(task).getSourcePositions();
        this.body = (ClassTree) unit.getTypeDecls().get(0);
        for (Tree member : body.getMembers()) {
            if (member instanceof MethodTree) {
                MethodTree method = (MethodTree) member;
                DUE.is("rule 1: a second " + method.getName(), methods.containsKey(method.getName().toString()), false);
                methods.put(method.getName().toString(), method);
            } else if (member instanceof VariableTree) {
                fields.put(((VariableTree) member).getName().toString(), (VariableTree) member);
            } else {
                DUE.is("rules 1 and 5: members other than fields and methods, " + member.getKind(), 1, 0);
            }
        }
    }

    public static void main(String[] args) throws IOException {
        JavaCompiler compiler = ToolProvider.getSystemJavaCompiler();
        try (StandardJavaFileManager files = compiler.getStandardFileManager(null, null, null)) {
            JavacTask task = (JavacTask) compiler.getTask(null, files, null, null, null,
                files.getJavaFileObjects(new File(SOURCE)));
            RulesTest test = new RulesTest(task, task.parse().iterator().next());
            test.oneClass();
            test.fieldsAndArrays();
            test.types();
            test.constructs();
            test.loops();
            test.calls();
            test.sizes();
        }
        DUE.end();
    }

    private void oneClass() {
        DUE.is("rule 1: package line", unit.getPackageName() != null, false);
        DUE.is("rule 3: imports", unit.getImports().size(), 0);
        DUE.is("rule 1: classes", unit.getTypeDecls().size(), 1);
        DUE.is("rule 1: superclass", body.getExtendsClause() != null, false);
        DUE.is("rule 1: interfaces", body.getImplementsClause().size(), 0);
    }

    /** Array fields are final, so that no method can assign to one. */
    private void fieldsAndArrays() {
        int varying = 0;
        Set<Tree> made = new HashSet<>();
        for (VariableTree field : fields.values()) {
            String name = field.getName().toString();
            boolean constant = isConstant(field);
            boolean array = field.getType() instanceof ArrayTypeTree;
            varying += constant ? 0 : 1;
            DUE.is("rule 5: static but no constant, " + name,
                field.getModifiers().getFlags().contains(Modifier.STATIC) && !constant, false);
            if (array) {
                DUE.is("rule 4: final, " + name, field.getModifiers().getFlags().contains(Modifier.FINAL), true);
                DUE.is("rule 4: made in the initialiser, " + name, isMadeWithConstantLength(field), true);
                made.add(field.getInitializer());
            }
        }
        DUE.is("rule 10: at most " + MOST_FIELDS + " fields, " + varying, varying <= MOST_FIELDS, true);
        new TreeScanner<Void, Void>() {
            @Override
            public Void visitNewArray(NewArrayTree tree, Void none) {
                DUE.is("rule 4: made elsewhere than in a field's initialiser, " + tree, made.contains(tree), true);
                return super.visitNewArray(tree, none);
            }
        }.scan(body, null);
    }

    private static boolean isConstant(VariableTree field) {
        boolean marked = field.getModifiers().getFlags().containsAll(EnumSet.of(Modifier.STATIC, Modifier.FINAL));
        boolean number = Set.of("int", "long").contains(field.getType().toString());
        ExpressionTree value = field.getInitializer();
        boolean negative = value != null && value.getKind() == Tree.Kind.UNARY_MINUS;
        ExpressionTree plain = negative ? ((UnaryTree) value).getExpression() : value;
        return marked && number && plain instanceof LiteralTree;
    }

    private boolean isMadeWithConstantLength(VariableTree field) {
        if (!(field.getInitializer() instanceof NewArrayTree)) {
            return false;
        }
        List<? extends ExpressionTree> lengths = ((NewArrayTree) field.getInitializer()).getDimensions();
        if (lengths.size() != 1 || !(lengths.get(0) instanceof IdentifierTree)) {
            return lengths.size() == 1 && lengths.get(0) instanceof LiteralTree;
        }
        VariableTree constant = fields.get(lengths.get(0).toString());
        return constant != null && isConstant(constant);
    }

    private void types() {
        new TreeScanner<Void, Void>() {
            @Override
            public Void visitVariable(VariableTree tree, Void none) {
                boolean field = fields.containsValue(tree);
                boolean array = field && tree.getType() instanceof ArrayTypeTree;
                Tree type = array ? ((ArrayTypeTree) tree.getType()).getType() : tree.getType();
                DUE.is("rule 2: " + tree, isNumber(type), true);
                return super.visitVariable(tree, none);
            }

            @Override
            public Void visitMethod(MethodTree tree, Void none) {
                Tree type = tree.getReturnType();
                boolean nothing = type == null || type.toString().equals("void");
                DUE.is("rules 2 and 4: answer of " + tree.getName(), nothing || isNumber(type), true);
                DUE.is("rule 6: throws of " + tree.getName(), tree.getThrows().size(), 0);
                return super.visitMethod(tree, none);
            }

            @Override
            public Void visitTypeCast(TypeCastTree tree, Void none) {
                DUE.is("rule 6: " + tree, isNumber(tree.getType()), true);
                return super.visitTypeCast(tree, none);
            }
        }.scan(body, null);
    }

    private static boolean isNumber(Tree type) {
        return type instanceof PrimitiveTypeTree && TYPES.contains(((PrimitiveTypeTree) type).getPrimitiveTypeKind());
    }

    /** No loop but for, and no dot at all: the class needs neither, and so nothing of the library can be named. */
    private void constructs() {
        new TreeScanner<Void, Void>() {
            @Override
            public Void scan(Tree tree, Void none) {
                if (tree != null) {
                    DUE.is("rules 2 to 6 and 8: " + tree.getKind(), NEVER.contains(tree.getKind()), false);
                }
                return super.scan(tree, none);
            }
        }.scan(body.getMembers(), null);
    }

    /** Every loop counts one up against a bound, and its body leaves the counter alone. */
    private void loops() {
        new TreeScanner<Void, Void>() {
            @Override
            public Void visitForLoop(ForLoopTree loop, Void none) {
                String counter = counterOf(loop);
                DUE.is("rule 8: counter of " + loop.getCondition(), counter.isEmpty(), false);
                DUE.is("rule 8: " + counter + " is changed in its loop", assigns(loop.getStatement(), counter), false);
                return super.visitForLoop(loop, none);
            }
        }.scan(body, null);
    }

    private static String counterOf(ForLoopTree loop) {
        boolean single = loop.getInitializer().size() == 1 && loop.getUpdate().size() == 1;
        if (!single || !(loop.getInitializer().get(0) instanceof VariableTree)) {
            return "";
        }
        String counter = ((VariableTree) loop.getInitializer().get(0)).getName().toString();
        boolean counts = loop.getUpdate().get(0).toString().equals(counter + "++;");
        Tree.Kind kind = loop.getCondition().getKind();
        boolean below = kind == Tree.Kind.LESS_THAN || kind == Tree.Kind.LESS_THAN_EQUAL;
        boolean bound = below && ((BinaryTree) loop.getCondition()).getLeftOperand().toString().equals(counter);
        return counts && bound ? counter : "";
    }

    private static boolean assigns(Tree where, String name) {
        boolean[] found = {false};
        new TreeScanner<Void, Void>() {
            @Override
            public Void visitAssignment(AssignmentTree tree, Void none) {
                found[0] |= tree.getVariable().toString().equals(name);
                return super.visitAssignment(tree, none);
            }

            @Override
            public Void visitCompoundAssignment(CompoundAssignmentTree tree, Void none) {
                found[0] |= tree.getVariable().toString().equals(name);
                return super.visitCompoundAssignment(tree, none);
            }

            @Override
            public Void visitUnary(UnaryTree tree, Void none) {
                boolean steps = tree.toString().contains("++") || tree.toString().contains("--");
                found[0] |= steps && tree.getExpression().toString().equals(name);
                return super.visitUnary(tree, none);
            }
        }.scan(where, null);
        return found[0];
    }

    private void calls() {
        for (MethodTree method : methods.values()) {
            new TreeScanner<Void, Void>() {
                @Override
                public Void visitMethodInvocation(MethodInvocationTree call, Void none) {
                    String name = call.getMethodSelect().toString();
                    DUE.is("rule 3: calls " + name, methods.containsKey(name), true);
                    DUE.is("rule 10: a call among the arguments of " + call, callsIn(call.getArguments()).size(), 0);
                    return super.visitMethodInvocation(call, none);
                }
            }.scan(method, null);
            int depth = depth(method.getName().toString(), 1);
            DUE.is("rules 8 and 10: calls from " + method.getName() + " go " + depth + " deep",
                depth <= MOST_DEPTH, true);
        }
    }

    private static Set<String> callsIn(Iterable<? extends Tree> trees) {
        Set<String> names = new TreeSet<>();
        new TreeScanner<Void, Void>() {
            @Override
            public Void visitMethodInvocation(MethodInvocationTree call, Void none) {
                names.add(call.getMethodSelect().toString());
                return super.visitMethodInvocation(call, none);
            }
        }.scan(trees, null);
        return names;
    }

    /** How deep calls go from a method; recursion goes deeper than is allowed, and is followed no further. */
    private int depth(String name, int above) {
        int deepest = above;
        MethodTree method = methods.get(name);
        if (method != null && above <= MOST_DEPTH) {
            for (String called : callsIn(List.of(method.getBody()))) {
                deepest = Math.max(deepest, depth(called, above + 1));
            }
        }
        return deepest;
    }

    private void sizes() {
        for (MethodTree method : methods.values()) {
            long first = unit.getLineMap().getLineNumber(positions.getStartPosition(unit, method));
            long last = unit.getLineMap().getLineNumber(positions.getEndPosition(unit, method));
            DUE.is("rule 10: lines of " + method.getName(), last - first < MOST_METHOD_LINES, true);
            DUE.is("rule 10: parameters of " + method.getName(),
                method.getParameters().size() <= MOST_PARAMETERS, true);
        }
    }
}
