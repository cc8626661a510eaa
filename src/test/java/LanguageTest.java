import com.sun.source.tree.ArrayTypeTree;
import com.sun.source.tree.AssignmentTree;
import com.sun.source.tree.BinaryTree;
import com.sun.source.tree.BlockTree;
import com.sun.source.tree.ClassTree;
import com.sun.source.tree.CompilationUnitTree;
import com.sun.source.tree.ExpressionTree;
import com.sun.source.tree.ForLoopTree;
import com.sun.source.tree.IdentifierTree;
import com.sun.source.tree.LiteralTree;
import com.sun.source.tree.MemberSelectTree;
import com.sun.source.tree.MethodInvocationTree;
import com.sun.source.tree.MethodTree;
import com.sun.source.tree.NewArrayTree;
import com.sun.source.tree.PrimitiveTypeTree;
import com.sun.source.tree.Tree;
import com.sun.source.tree.VariableTree;
import com.sun.source.util.JavacTask;
import com.sun.source.util.TreePath;
import com.sun.source.util.TreePathScanner;
import com.sun.source.util.Trees;
import java.io.IOException;
import java.nio.file.Path;
import java.util.HashMap;
import java.util.Map;
import java.util.Set;
import java.util.TreeMap;
import java.util.TreeSet;
import javax.lang.model.element.Modifier;
import javax.lang.model.type.TypeKind;
import javax.tools.JavaCompiler;
import javax.tools.StandardJavaFileManager;
import javax.tools.ToolProvider;

/**
 * LANGUAGE.md, as far as it can be seen from the class's source (rule 1 is
 * FaceTest's). Where a rule leaves a choice that the class doesn't need, the
 * test is stricter than the rule: there is no local variable that names an
 * array, every array field is final, no array that a method is handed changes
 * to another one, and every loop is a for with a condition.
 */
public final class LanguageTest extends TreePathScanner<Void, Void> {
    private static final Set<Tree.Kind> RULED_OUT = Set.of(
        Tree.Kind.IMPORT, Tree.Kind.PACKAGE, Tree.Kind.NEW_CLASS, Tree.Kind.NULL_LITERAL, Tree.Kind.STRING_LITERAL,
        Tree.Kind.FLOAT_LITERAL, Tree.Kind.DOUBLE_LITERAL, Tree.Kind.THROW, Tree.Kind.TRY, Tree.Kind.CATCH,
        Tree.Kind.SYNCHRONIZED, Tree.Kind.ASSERT, Tree.Kind.INSTANCE_OF, Tree.Kind.LAMBDA_EXPRESSION,
        Tree.Kind.MEMBER_REFERENCE, Tree.Kind.ANNOTATION, Tree.Kind.PARAMETERIZED_TYPE, Tree.Kind.INTERFACE,
        Tree.Kind.ENUM, Tree.Kind.RECORD, Tree.Kind.WHILE_LOOP, Tree.Kind.DO_WHILE_LOOP,
        Tree.Kind.ENHANCED_FOR_LOOP);
    private static final Set<TypeKind> TYPES = Set.of(TypeKind.INT, TypeKind.LONG, TypeKind.SHORT, TypeKind.BYTE,
        TypeKind.CHAR, TypeKind.BOOLEAN);

    private final CompilationUnitTree unit;
    private final Trees trees;
    private final Map<String, Set<String>> calls = new TreeMap<>();
    private final Set<String> arrays = new TreeSet<>();
    private final Set<String> assigned = new TreeSet<>();
    private final Set<String> compared = new TreeSet<>();
    private int fields = 0;

    private LanguageTest(CompilationUnitTree unit, Trees trees) {
        this.unit = unit;
        this.trees = trees;
    }

    public static void main(String[] args) throws IOException {
        JavaCompiler compiler = ToolProvider.getSystemJavaCompiler();
        try (StandardJavaFileManager files = compiler.getStandardFileManager(null, null, null)) {
            JavacTask task = (JavacTask) compiler.getTask(null, files, null, null, null,
                files.getJavaFileObjects(Path.of("src/main/java/PodemTestGen.java")));
            CompilationUnitTree unit = task.parse().iterator().next();
            LanguageTest test = new LanguageTest(unit, Trees.instance(task));
            Check.due("classes in the file", unit.getTypeDecls().size(), 1);
            test.scan(unit, null);
            Check.due("fields beside the constants are at most 40", test.fields <= 40, true);
            test.callDepths();
            test.arraysStay();
        }
        Check.end();
    }

    @Override
    public Void scan(Tree tree, Void none) {
        if (tree != null) {
            Tree.Kind kind = tree.getKind();
            Check.due(kind + " at line " + line(tree) + " is ruled out", RULED_OUT.contains(kind), false);
        }
        return super.scan(tree, none);
    }

    @Override
    public Void visitClass(ClassTree type, Void none) {
        boolean nested = getCurrentPath().getParentPath().getLeaf() != unit;
        Check.due("class " + type.getSimpleName() + " is nested", nested, false);
        return super.visitClass(type, none);
    }

    @Override
    public Void visitVariable(VariableTree variable, Void none) {
        String name = variable.getName() + " at line " + line(variable);
        boolean array = variable.getType() instanceof ArrayTypeTree;
        Set<Modifier> modifiers = variable.getModifiers().getFlags();
        Check.due("the type of " + name + " is allowed", isAllowed(variable.getType()), true);
        if (array) {
            arrays.add(variable.getName().toString());
        }
        if (getCurrentPath().getParentPath().getLeaf() instanceof ClassTree) {
            fields += modifiers.contains(Modifier.STATIC) ? 0 : 1;
            Check.due(name + " is a final array", modifiers.contains(Modifier.FINAL) || !array, true);
            if (modifiers.contains(Modifier.STATIC)) {
                Check.due(name + " is a constant", isConstant(variable), true);
            }
        } else if (!(getCurrentPath().getParentPath().getLeaf() instanceof MethodTree)) {
            Check.due(name + " is a local variable that names an array", array, false);
        }
        return super.visitVariable(variable, none);
    }

    private boolean isAllowed(Tree type) {
        Tree element = type instanceof ArrayTypeTree array ? array.getType() : type;
        return element instanceof PrimitiveTypeTree primitive && TYPES.contains(primitive.getPrimitiveTypeKind());
    }

    private static boolean isConstant(VariableTree field) {
        boolean number = field.getType() instanceof PrimitiveTypeTree type
            && Set.of(TypeKind.INT, TypeKind.LONG).contains(type.getPrimitiveTypeKind());
        Tree value = field.getInitializer();
        return number && field.getModifiers().getFlags().contains(Modifier.FINAL)
            && value != null && (value instanceof LiteralTree || value.getKind() == Tree.Kind.UNARY_MINUS);
    }

    @Override
    public Void visitBlock(BlockTree block, Void none) {
        boolean initialiser = getCurrentPath().getParentPath().getLeaf() instanceof ClassTree;
        Check.due("the block at line " + line(block) + " is an initialiser", initialiser, false);
        return super.visitBlock(block, none);
    }

    @Override
    public Void visitMethod(MethodTree method, Void none) {
        String name = method.getName().toString();
        long last = unit.getLineMap().getLineNumber(trees.getSourcePositions().getEndPosition(unit, method));
        Check.due("the lines of " + name + " are at most 60", last - line(method) < 60, true);
        Check.due("the parameters of " + name + " are at most 7", method.getParameters().size() <= 7, true);
        Check.due("another method is named " + name, calls.containsKey(name), false);
        calls.put(name, new TreeSet<>());
        Check.due("the type that " + name + " answers is allowed", answersNoArray(method.getReturnType()), true);
        return super.visitMethod(method, none);
    }

    /** The constructor has no such type. */
    private boolean answersNoArray(Tree type) {
        return type == null || type instanceof PrimitiveTypeTree primitive
            && (primitive.getPrimitiveTypeKind() == TypeKind.VOID || isAllowed(type));
    }

    @Override
    public Void visitNewArray(NewArrayTree array, Void none) {
        String where = "the array at line " + line(array);
        TreePath holder = getCurrentPath().getParentPath();
        boolean inField = holder.getLeaf() instanceof VariableTree
            && holder.getParentPath().getLeaf() instanceof ClassTree;
        Check.due(where + " is made in a field's initialiser", inField, true);
        Check.due(where + " has one dimension", array.getDimensions().size(), 1);
        for (ExpressionTree length : array.getDimensions()) {
            boolean constant = length instanceof IdentifierTree name && name.getName().toString().matches("[A-Z_]+");
            Check.due(where + " has a fixed length", constant || length instanceof LiteralTree, true);
        }
        return super.visitNewArray(array, none);
    }

    @Override
    public Void visitAssignment(AssignmentTree assignment, Void none) {
        assigned.add(withoutThis(assignment.getVariable()));
        return super.visitAssignment(assignment, none);
    }

    @Override
    public Void visitBinary(BinaryTree binary, Void none) {
        if (binary.getKind() == Tree.Kind.EQUAL_TO || binary.getKind() == Tree.Kind.NOT_EQUAL_TO) {
            compared.add(withoutThis(binary.getLeftOperand()));
            compared.add(withoutThis(binary.getRightOperand()));
        }
        return super.visitBinary(binary, none);
    }

    private static String withoutThis(Tree operand) {
        return operand.toString().replaceFirst("^this\\.", "");
    }

    /** An array's name stands for the same array from first to last, and is asked for nothing but its elements. */
    private void arraysStay() {
        for (String array : arrays) {
            Check.due("the array " + array + " is assigned to", assigned.contains(array), false);
            Check.due("the array " + array + " is compared", compared.contains(array), false);
        }
    }

    /** A name with a dot would reach a class of the library, or a member of another object. */
    @Override
    public Void visitMemberSelect(MemberSelectTree select, Void none) {
        String text = select.toString();
        boolean own = text.startsWith("this.") || text.endsWith(".length");
        Check.due(text + " at line " + line(select) + " is this object's own", own, true);
        return super.visitMemberSelect(select, none);
    }

    @Override
    public Void visitMethodInvocation(MethodInvocationTree call, Void none) {
        String name = call.getMethodSelect().toString();
        TreePath path = getCurrentPath().getParentPath();
        boolean inside = false;
        while (path != null && !(path.getLeaf() instanceof MethodTree)) {
            inside = inside || path.getLeaf() instanceof MethodInvocationTree;
            path = path.getParentPath();
        }
        Check.due(name + " at line " + line(call) + " stands inside another call", inside, false);
        Check.due(name + " at line " + line(call) + " is called in a method", path != null, true);
        if (path != null) {
            calls.get(((MethodTree) path.getLeaf()).getName().toString()).add(name);
        }
        return super.visitMethodInvocation(call, none);
    }

    @Override
    public Void visitForLoop(ForLoopTree loop, Void none) {
        Check.due("the loop at line " + line(loop) + " has a condition", loop.getCondition() != null, true);
        Check.due("the loop at line " + line(loop) + " has a counter", loop.getInitializer().size(), 1);
        Check.due("the loop at line " + line(loop) + " moves its counter", loop.getUpdate().size(), 1);
        return super.visitForLoop(loop, none);
    }

    /** The depth of each method's calls; without a depth after as many rounds as methods, calls go in a circle. */
    private void callDepths() {
        Map<String, Integer> depths = new HashMap<>();
        for (int round = 0; round < calls.size(); round++) {
            for (Map.Entry<String, Set<String>> method : calls.entrySet()) {
                if (depths.keySet().containsAll(method.getValue())) {
                    int deepest = method.getValue().stream().mapToInt(depths::get).max().orElse(0);
                    depths.put(method.getKey(), deepest + 1);
                }
            }
        }
        for (String method : calls.keySet()) {
            boolean shallow = depths.getOrDefault(method, 99) <= 6;
            Check.due(method + " calls methods of the class alone, at most six deep", shallow, true);
        }
    }

    private long line(Tree tree) {
        return unit.getLineMap().getLineNumber(Math.max(0, trees.getSourcePositions().getStartPosition(unit, tree)));
    }
}
