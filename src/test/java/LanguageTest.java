import com.sun.source.tree.ArrayTypeTree;
import com.sun.source.tree.AssignmentTree;
import com.sun.source.tree.BinaryTree;
import com.sun.source.tree.BlockTree;
import com.sun.source.tree.ClassTree;
import com.sun.source.tree.CompilationUnitTree;
import com.sun.source.tree.CompoundAssignmentTree;
import com.sun.source.tree.ExpressionTree;
import com.sun.source.tree.ForLoopTree;
import com.sun.source.tree.IdentifierTree;
import com.sun.source.tree.LiteralTree;
import com.sun.source.tree.MemberSelectTree;
import com.sun.source.tree.MethodInvocationTree;
import com.sun.source.tree.MethodTree;
import com.sun.source.tree.NewArrayTree;
import com.sun.source.tree.PrimitiveTypeTree;
import com.sun.source.tree.Tree;
import com.sun.source.tree.TypeCastTree;
import com.sun.source.tree.UnaryTree;
import com.sun.source.tree.VariableTree;
import com.sun.source.util.JavacTask;
import com.sun.source.util.SourcePositions;
import com.sun.source.util.TreePath;
import com.sun.source.util.TreePathScanner;
import com.sun.source.util.TreeScanner;
import com.sun.source.util.Trees;
import java.io.File;
import java.io.IOException;
import java.util.EnumSet;
import java.util.Map;
import java.util.Set;
import java.util.TreeMap;
import java.util.TreeSet;
import javax.lang.model.element.Modifier;
import javax.lang.model.type.TypeKind;
import javax.tools.JavaCompiler;
import javax.tools.StandardJavaFileManager;
import javax.tools.ToolProvider;

/**
 * The rules of LANGUAGE.md that the source's own form shows. FaceTest has those that reflection
 * shows. In places the test asks for more than the rule, because the program needs no more:
 * arrays are made in field initialisers alone, no local names an array, every loop counts up.
 */
public final class LanguageTest extends TreePathScanner<Void, Void> {
    private static final Set<Tree.Kind> RULED_OUT = EnumSet.of(
        Tree.Kind.THROW, Tree.Kind.TRY, Tree.Kind.CATCH, Tree.Kind.SYNCHRONIZED, Tree.Kind.ASSERT,
        Tree.Kind.INSTANCE_OF, Tree.Kind.LAMBDA_EXPRESSION, Tree.Kind.MEMBER_REFERENCE,
        Tree.Kind.NEW_CLASS, Tree.Kind.NULL_LITERAL, Tree.Kind.STRING_LITERAL,
        Tree.Kind.FLOAT_LITERAL, Tree.Kind.DOUBLE_LITERAL, Tree.Kind.ENHANCED_FOR_LOOP,
        Tree.Kind.WHILE_LOOP, Tree.Kind.DO_WHILE_LOOP, Tree.Kind.INTERFACE, Tree.Kind.ENUM,
        Tree.Kind.RECORD, Tree.Kind.ANNOTATION_TYPE, Tree.Kind.ANNOTATION, Tree.Kind.IMPORT);

    private final CompilationUnitTree unit;
    private final SourcePositions positions;
    private final Set<String> arrayFields = new TreeSet<>();
    private final Set<String> constants = new TreeSet<>();
    private final Map<String, Set<String>> calls = new TreeMap<>();

    private LanguageTest(CompilationUnitTree unit, SourcePositions positions) {
        this.unit = unit;
        this.positions = positions;
    }

    public static void main(String[] args) throws IOException {
        JavaCompiler compiler = ToolProvider.getSystemJavaCompiler();
        try (StandardJavaFileManager files = compiler.getStandardFileManager(null, null, null)) {
            JavacTask task = (JavacTask) compiler.getTask(null, files, null, null, null,
                files.getJavaFileObjects(new File("src/main/java/ChordRing.java")));
            CompilationUnitTree unit = task.parse().iterator().next();
            new LanguageTest(unit, Trees.instance(task).getSourcePositions()).check();
        }
        Due.finish();
    }

    private void check() {
        Due.sentence("rule 1");
        Due.due("a package line", unit.getPackageName() != null, false);
        Due.due("classes in the file", unit.getTypeDecls().size(), 1);
        if (Due.anyWrong()) {
            return;
        }
        collectNames((ClassTree) unit.getTypeDecls().get(0));
        scan(unit, null);
        Due.sentence("rule 10");
        for (String method : calls.keySet()) {
            Due.due("calls below " + method + " at most six deep", depth(method, 0) <= 6, true);
        }
    }

    private void collectNames(ClassTree program) {
        int fields = 0;
        for (Tree member : program.getMembers()) {
            Due.sentence("rule 5");
            Due.due("an initialiser block", member instanceof BlockTree, false);
            if (member instanceof MethodTree method) {
                Due.sentence("rule 10");
                Due.due(method.getName() + " overloaded", calls.containsKey("" + method.getName()), false);
                calls.put("" + method.getName(), new TreeSet<>());
            } else if (member instanceof VariableTree field) {
                boolean fixed = field.getModifiers().getFlags().contains(Modifier.STATIC);
                fields += fixed ? 0 : 1;
                if (fixed) {
                    constants.add("" + field.getName());
                } else if (field.getType() instanceof ArrayTypeTree) {
                    arrayFields.add("" + field.getName());
                }
            }
        }
        Due.sentence("rule 10");
        Due.due("fields beside constants: " + fields, fields <= 40, true);
    }

    /** How deep the calls go; a recursion never ends by itself, so it is cut far above the six allowed. */
    private int depth(String method, int above) {
        int deepest = 1;
        for (String called : calls.getOrDefault(method, Set.of())) {
            deepest = Math.max(deepest, above > 20 ? 100 : 1 + depth(called, above + 1));
        }
        return deepest;
    }

    private String at(Tree tree) {
        return "line " + line(positions.getStartPosition(unit, tree)) + ": ";
    }

    private long line(long position) {
        return unit.getLineMap().getLineNumber(position);
    }

    private MethodTree methodAround() {
        for (TreePath path = getCurrentPath(); path != null; path = path.getParentPath()) {
            if (path.getLeaf() instanceof MethodTree method) {
                return method;
            }
        }
        return null;
    }

    @Override
    public Void scan(Tree tree, Void nothing) {
        if (tree != null) {
            Due.sentence("rules 1 to 8, what is ruled out");
            Due.due(at(tree) + tree.getKind(), RULED_OUT.contains(tree.getKind()), false);
        }
        return super.scan(tree, nothing);
    }

    @Override
    public Void visitClass(ClassTree tree, Void nothing) {
        Due.sentence("rule 1");
        Due.due(at(tree) + "a class inside", getCurrentPath().getParentPath().getLeaf() != unit, false);
        return super.visitClass(tree, nothing);
    }

    @Override
    public Void visitVariable(VariableTree tree, Void nothing) {
        boolean field = getCurrentPath().getParentPath().getLeaf() instanceof ClassTree;
        boolean array = tree.getType() instanceof ArrayTypeTree;
        Due.sentence("rule 2");
        Due.due(at(tree) + "type of " + tree.getName(), isPlain(tree.getType(), array), true);
        Due.sentence("rule 4");
        if (array) {
            Due.due(at(tree) + tree.getName() + " is a field", field, true);
            Due.due(at(tree) + tree.getName() + " is final",
                tree.getModifiers().getFlags().contains(Modifier.FINAL), true);
            Due.due(at(tree) + tree.getName() + " is made here",
                tree.getInitializer() instanceof NewArrayTree, true);
        }
        return super.visitVariable(tree, nothing);
    }

    private static boolean isPlain(Tree type, boolean array) {
        Tree item = array ? ((ArrayTypeTree) type).getType() : type;
        return item instanceof PrimitiveTypeTree plain
            && plain.getPrimitiveTypeKind() != TypeKind.FLOAT
            && plain.getPrimitiveTypeKind() != TypeKind.DOUBLE;
    }

    @Override
    public Void visitMethod(MethodTree tree, Void nothing) {
        Due.sentence("rule 2");
        Due.due(at(tree) + "answer of " + tree.getName(),
            tree.getReturnType() == null || isPlain(tree.getReturnType(), false), true);
        Due.sentence("rule 10");
        long length = line(positions.getEndPosition(unit, tree)) - line(positions.getStartPosition(unit, tree)) + 1;
        Due.due(tree.getName() + " has at most sixty lines", length <= 60, true);
        Due.due(tree.getName() + " has at most seven parameters", tree.getParameters().size() <= 7, true);
        return super.visitMethod(tree, nothing);
    }

    @Override
    public Void visitNewArray(NewArrayTree tree, Void nothing) {
        Due.sentence("rule 4");
        Tree parent = getCurrentPath().getParentPath().getLeaf();
        Due.due(at(tree) + "made in a field's initialiser", parent instanceof VariableTree, true);
        Due.due(at(tree) + "one dimension", tree.getDimensions().size(), 1);
        for (ExpressionTree length : tree.getDimensions()) {
            boolean known = length instanceof LiteralTree number && ((Integer) number.getValue()) >= 1
                || length instanceof IdentifierTree name && constants.contains("" + name.getName());
            Due.due(at(tree) + "a literal or a constant as length", known, true);
        }
        return super.visitNewArray(tree, nothing);
    }

    @Override
    public Void visitAssignment(AssignmentTree tree, Void nothing) {
        Due.sentence("rule 4");
        Due.due(at(tree) + "assigns to an array field", namesArray(tree.getVariable()), false);
        return super.visitAssignment(tree, nothing);
    }

    @Override
    public Void visitBinary(BinaryTree tree, Void nothing) {
        Due.sentence("rule 4");
        Due.due(at(tree) + "compares an array",
            namesArray(tree.getLeftOperand()) || namesArray(tree.getRightOperand()), false);
        return super.visitBinary(tree, nothing);
    }

    private boolean namesArray(Tree tree) {
        return tree instanceof IdentifierTree name && arrayFields.contains("" + name.getName())
            || tree instanceof MemberSelectTree select && arrayFields.contains("" + select.getIdentifier());
    }

    @Override
    public Void visitTypeCast(TypeCastTree tree, Void nothing) {
        Due.sentence("rule 6");
        Due.due(at(tree) + "cast to a number", isPlain(tree.getType(), false), true);
        return super.visitTypeCast(tree, nothing);
    }

    @Override
    public Void visitMemberSelect(MemberSelectTree tree, Void nothing) {
        Due.sentence("rule 3");
        boolean own = tree.getExpression().toString().equals("this");
        boolean length = namesArray(tree.getExpression()) && tree.getIdentifier().contentEquals("length");
        Due.due(at(tree) + "a name of its own after the dot of " + tree, own || length, true);
        return super.visitMemberSelect(tree, nothing);
    }

    @Override
    public Void visitMethodInvocation(MethodInvocationTree tree, Void nothing) {
        String called = tree.getMethodSelect().toString().replaceFirst("^this\\.", "");
        // The compiler itself writes the call of the parent's constructor.
        if (called.equals("super")) {
            return null;
        }
        Due.sentence("rule 3");
        Due.due(at(tree) + called + " is a method of the class", calls.containsKey(called), true);
        Due.sentence("rule 10");
        for (ExpressionTree argument : tree.getArguments()) {
            Due.due(at(tree) + "a call in the arguments of " + called, holdsACall(argument), false);
        }
        MethodTree caller = methodAround();
        Due.due(at(tree) + called + " is called in a method", caller != null, true);
        if (caller != null) {
            calls.get("" + caller.getName()).add(called);
        }
        return super.visitMethodInvocation(tree, nothing);
    }

    private static boolean holdsACall(Tree tree) {
        boolean[] found = {false};
        new TreeScanner<Void, Void>() {
            @Override
            public Void visitMethodInvocation(MethodInvocationTree call, Void nothing) {
                found[0] = true;
                return null;
            }
        }.scan(tree, null);
        return found[0];
    }

    @Override
    public Void visitForLoop(ForLoopTree tree, Void nothing) {
        Due.sentence("rule 8");
        String counter = tree.getInitializer().size() == 1
            && tree.getInitializer().get(0) instanceof VariableTree start ? "" + start.getName() : "";
        Due.due(at(tree) + "one counter", counter.isEmpty(), false);
        Due.due(at(tree) + "counts up", tree.getUpdate().size() == 1
            && tree.getUpdate().get(0).toString().equals(counter + "++;"), true);
        if (tree.getCondition() instanceof BinaryTree against && against.getKind() == Tree.Kind.LESS_THAN) {
            String bound = against.getRightOperand().toString();
            Due.due(at(tree) + "the counter against a bound",
                against.getLeftOperand().toString().equals(counter), true);
            Due.due(at(tree) + "counter or bound changes inside",
                changes(tree.getStatement(), counter) || changes(tree.getStatement(), bound), false);
        } else {
            Due.due(at(tree) + "a counter below a bound", false, true);
        }
        return super.visitForLoop(tree, nothing);
    }

    private static boolean changes(Tree body, String name) {
        boolean[] found = {false};
        new TreeScanner<Void, Void>() {
            @Override
            public Void visitAssignment(AssignmentTree tree, Void nothing) {
                found[0] |= tree.getVariable().toString().equals(name);
                return super.visitAssignment(tree, nothing);
            }

            @Override
            public Void visitCompoundAssignment(CompoundAssignmentTree tree, Void nothing) {
                found[0] |= tree.getVariable().toString().equals(name);
                return super.visitCompoundAssignment(tree, nothing);
            }

            @Override
            public Void visitUnary(UnaryTree tree, Void nothing) {
                boolean steps = tree.toString().contains("++") || tree.toString().contains("--");
                found[0] |= steps && tree.getExpression().toString().equals(name);
                return super.visitUnary(tree, nothing);
            }
        }.scan(body, null);
        return found[0];
    }
}
