import com.sun.source.tree.*;
import com.sun.source.util.JavacTask;
import com.sun.source.util.SourcePositions;
import com.sun.source.util.TreePath;
import com.sun.source.util.TreePathScanner;
import com.sun.source.util.TreeScanner;
import com.sun.source.util.Trees;
import java.io.IOException;
import java.nio.file.Path;
import java.util.EnumSet;
import java.util.HashMap;
import java.util.HashSet;
import java.util.Map;
import java.util.Set;
import java.util.TreeMap;
import java.util.TreeSet;
import javax.lang.model.element.Modifier;
import javax.lang.model.type.TypeKind;
import javax.tools.JavaCompiler;
import javax.tools.StandardJavaFileManager;
import javax.tools.ToolProvider;

// The rules of LANGUAGE.md that the program's text shows. Where a rule leaves several ways, this
// asks for the one the program takes: arrays made in the fields' initialisers, no division, and
// no loop but a for loop whose counter its header alone changes.
public final class LanguageTest extends TreePathScanner<Void, Void> {
    private static final String PROGRAM = "src/main/java/SerializableStore.java";
    private static final int MOST_LINES = 60;
    private static final int MOST_DEEP = 6;
    private static final int MOST_PARAMETERS = 7;
    private static final int MOST_FIELDS = 40;
    private static final Set<TypeKind> TYPES = EnumSet.of(TypeKind.INT, TypeKind.LONG, TypeKind.SHORT, TypeKind.BYTE,
            TypeKind.CHAR, TypeKind.BOOLEAN, TypeKind.VOID);
    private final CompilationUnitTree unit;
    private final SourcePositions positions;
    private final Set<String> methods = new HashSet<>();
    private final Set<String> constants = new HashSet<>();
    private final Set<String> arrayFields = new HashSet<>();
    private final Set<String> names = new HashSet<>(Set.of("this", "super"));
    private final Map<String, Set<String>> calls = new TreeMap<>();
    private int wrong = 0;

    private LanguageTest(CompilationUnitTree unit, SourcePositions positions) {
        this.unit = unit;
        this.positions = positions;
    }

    private long line(long position) {
        return unit.getLineMap().getLineNumber(position);
    }

    private void must(boolean holds, int rule, Tree tree, String what) {
        if (!holds) {
            wrong++;
            System.out.println("line " + line(positions.getStartPosition(unit, tree)) + ", rule " + rule + ": " + what);
        }
    }

    private static boolean isField(TreePath path) {
        return path.getParentPath().getLeaf() instanceof ClassTree;
    }

    // A first walk, since a method may use what is declared below it.
    private void collect(ClassTree type) {
        int fields = 0;
        for (Tree member : type.getMembers()) {
            if (member instanceof MethodTree) {
                String name = ((MethodTree) member).getName().toString();
                must(methods.add(name), 1, member, "the name " + name + " is a method's already");
            } else if (member instanceof VariableTree) {
                fields += collectField((VariableTree) member);
            } else {
                must(false, 1, member, "a member that is neither a field nor a method");
            }
        }
        must(fields <= MOST_FIELDS, 10, type, fields + " fields");
    }

    private int collectField(VariableTree field) {
        names.add(field.getName().toString());
        boolean isArray = field.getType() instanceof ArrayTypeTree;
        if (isArray) {
            arrayFields.add(field.getName().toString());
        }
        if (!field.getModifiers().getFlags().contains(Modifier.STATIC)) {
            return 1;
        }
        constants.add(field.getName().toString());
        boolean isFinal = field.getModifiers().getFlags().contains(Modifier.FINAL);
        must(!isArray && isFinal && field.getInitializer() != null, 5, field, "a static field that is no constant");
        return 0;
    }

    // The rule that a kind of tree is against wherever it stands, or 0.
    private static int ruleAgainst(Tree.Kind kind) {
        switch (kind) {
            case PACKAGE: case INTERFACE: case ENUM: case RECORD: case ANNOTATION_TYPE:
                return 1;
            case STRING_LITERAL: case FLOAT_LITERAL: case DOUBLE_LITERAL: case PARAMETERIZED_TYPE:
                return 2;
            case IMPORT: case ANNOTATION:
                return 3;
            case NEW_CLASS: case NULL_LITERAL:
                return 4;
            case THROW: case TRY: case SYNCHRONIZED: case ASSERT: case INSTANCE_OF: case LAMBDA_EXPRESSION:
            case MEMBER_REFERENCE:
                return 6;
            case DIVIDE: case REMAINDER: case DIVIDE_ASSIGNMENT: case REMAINDER_ASSIGNMENT:
                return 7;
            case WHILE_LOOP: case DO_WHILE_LOOP: case ENHANCED_FOR_LOOP:
                return 8;
            default:
                return 0;
        }
    }

    @Override
    public Void scan(Tree tree, Void none) {
        if (tree != null) {
            int rule = ruleAgainst(tree.getKind());
            must(rule == 0, rule, tree, tree.getKind() + " is used");
        }
        return super.scan(tree, none);
    }

    @Override
    public Void visitClass(ClassTree type, Void none) {
        must(getCurrentPath().getParentPath().getLeaf() == unit, 1, type, "a nested class");
        return super.visitClass(type, none);
    }

    @Override
    public Void visitPrimitiveType(PrimitiveTypeTree type, Void none) {
        must(TYPES.contains(type.getPrimitiveTypeKind()), 2, type, "the type " + type);
        return super.visitPrimitiveType(type, none);
    }

    @Override
    public Void visitArrayType(ArrayTypeTree type, Void none) {
        must(type.getType() instanceof PrimitiveTypeTree, 2, type, "the type " + type);
        return super.visitArrayType(type, none);
    }

    @Override
    public Void visitVariable(VariableTree variable, Void none) {
        names.add(variable.getName().toString());
        boolean isPlain = variable.getType() instanceof PrimitiveTypeTree || variable.getType() instanceof ArrayTypeTree;
        must(isPlain, 2, variable, "the type " + variable.getType());
        return super.visitVariable(variable, none);
    }

    @Override
    public Void visitTypeCast(TypeCastTree cast, Void none) {
        must(cast.getType() instanceof PrimitiveTypeTree, 6, cast, "a cast of a reference");
        return super.visitTypeCast(cast, none);
    }

    @Override
    public Void visitIdentifier(IdentifierTree identifier, Void none) {
        String name = identifier.getName().toString();
        Tree parent = getCurrentPath().getParentPath().getLeaf();
        boolean isCalled = parent instanceof MethodInvocationTree
                && ((MethodInvocationTree) parent).getMethodSelect() == identifier;
        must(isCalled || names.contains(name), 3, identifier, "the name " + name + " is not the program's");
        return super.visitIdentifier(identifier, none);
    }

    @Override
    public Void visitMemberSelect(MemberSelectTree select, Void none) {
        boolean isOwn = select.getExpression().toString().equals("this");
        must(isOwn && names.contains(select.getIdentifier().toString()), 3, select, select + " is used");
        return super.visitMemberSelect(select, none);
    }

    @Override
    public Void visitNewArray(NewArrayTree array, Void none) {
        boolean inField = isField(getCurrentPath().getParentPath());
        must(inField, 4, array, "an array is made outside a field's initialiser");
        boolean oneLength = array.getInitializers() == null && array.getDimensions().size() == 1;
        must(oneLength, 4, array, "an array without one length");
        if (oneLength) {
            ExpressionTree length = array.getDimensions().get(0);
            boolean isFixed = length instanceof LiteralTree || constants.contains(length.toString());
            must(isFixed, 4, array, "the length " + length + " is no constant");
        }
        return super.visitNewArray(array, none);
    }

    private void mustNotAssignArray(ExpressionTree target) {
        String name = target.toString().replace("this.", "");
        must(!arrayFields.contains(name), 4, target, "the array " + name + " is assigned");
    }

    @Override
    public Void visitAssignment(AssignmentTree assignment, Void none) {
        mustNotAssignArray(assignment.getVariable());
        return super.visitAssignment(assignment, none);
    }

    @Override
    public Void visitBinary(BinaryTree binary, Void none) {
        for (ExpressionTree side : new ExpressionTree[] {binary.getLeftOperand(), binary.getRightOperand()}) {
            boolean isArray = arrayFields.contains(side.toString().replace("this.", ""));
            must(!isArray, 4, side, "the array " + side + " is compared");
        }
        return super.visitBinary(binary, none);
    }

    @Override
    public Void visitMethod(MethodTree method, Void none) {
        must(method.getParameters().size() <= MOST_PARAMETERS, 10, method, "too many parameters");
        must(!(method.getReturnType() instanceof ArrayTypeTree), 4, method, "an array is answered");
        must(method.getThrows().isEmpty(), 6, method, "a throws clause");
        long first = line(positions.getStartPosition(unit, method));
        long last = line(positions.getEndPosition(unit, method));
        must(last - first + 1 <= MOST_LINES, 10, method, "a method of " + (last - first + 1) + " lines");
        calls.put(method.getName().toString(), new TreeSet<>());
        return super.visitMethod(method, none);
    }

    private String methodAround(TreePath path) {
        for (TreePath at = path; at != null; at = at.getParentPath()) {
            if (at.getLeaf() instanceof MethodTree) {
                return ((MethodTree) at.getLeaf()).getName().toString();
            }
        }
        return "";
    }

    @Override
    public Void visitMethodInvocation(MethodInvocationTree call, Void none) {
        String name = call.getMethodSelect().toString();
        // The compiler itself may put super() into the constructor.
        if (!name.equals("super")) {
            must(methods.contains(name), 3, call, "the call " + name + " is not of an own method");
            String around = methodAround(getCurrentPath());
            must(calls.containsKey(around), 4, call, "the call " + name + " stands in no method");
            calls.computeIfAbsent(around, key -> new TreeSet<>()).add(name);
        }
        for (ExpressionTree argument : call.getArguments()) {
            must(!hasCall(argument), 10, argument, "a call inside the arguments of " + name);
        }
        return super.visitMethodInvocation(call, none);
    }

    private static boolean hasCall(Tree tree) {
        boolean[] found = {false};
        new TreeScanner<Void, Void>() {
            @Override
            public Void visitMethodInvocation(MethodInvocationTree call, Void none) {
                found[0] = true;
                return null;
            }
        }.scan(tree, null);
        return found[0];
    }

    // Whether the tree assigns to the name, steps it up or steps it down.
    private static boolean changes(Tree tree, String name) {
        boolean[] found = {false};
        new TreeScanner<Void, Void>() {
            @Override
            public Void visitAssignment(AssignmentTree assignment, Void none) {
                found[0] |= assignment.getVariable().toString().equals(name);
                return super.visitAssignment(assignment, none);
            }

            @Override
            public Void visitCompoundAssignment(CompoundAssignmentTree assignment, Void none) {
                found[0] |= assignment.getVariable().toString().equals(name);
                return super.visitCompoundAssignment(assignment, none);
            }

            @Override
            public Void visitUnary(UnaryTree unary, Void none) {
                found[0] |= isStep(unary.getKind()) && unary.getExpression().toString().equals(name);
                return super.visitUnary(unary, none);
            }
        }.scan(tree, null);
        return found[0];
    }

    private static boolean isStep(Tree.Kind kind) {
        return kind == Tree.Kind.POSTFIX_INCREMENT || kind == Tree.Kind.POSTFIX_DECREMENT
                || kind == Tree.Kind.PREFIX_INCREMENT || kind == Tree.Kind.PREFIX_DECREMENT;
    }

    private static boolean isUpTo(String condition, String counter) {
        return condition.startsWith(counter + " < ") || condition.startsWith(counter + " <= ");
    }

    @Override
    public Void visitForLoop(ForLoopTree loop, Void none) {
        boolean hasHeader = loop.getInitializer().size() == 1 && loop.getInitializer().get(0) instanceof VariableTree
                && loop.getCondition() != null && loop.getUpdate().size() == 1;
        must(hasHeader, 8, loop, "a loop without a counter, a bound and a step");
        if (hasHeader) {
            String counter = ((VariableTree) loop.getInitializer().get(0)).getName().toString();
            String condition = loop.getCondition().toString();
            String step = loop.getUpdate().get(0).getExpression().toString();
            boolean up = isUpTo(condition, counter) && step.equals(counter + "++");
            boolean down = condition.equals(counter + " >= 0") && step.equals(counter + "--");
            must(up || down, 8, loop, "the counter " + counter + " does not go to a bound");
            must(!changes(loop.getStatement(), counter), 8, loop, "the counter " + counter + " is changed in the loop");
        }
        return super.visitForLoop(loop, none);
    }

    // How deep the calls below a method go; a method that is met again on its own path calls itself.
    private int depth(String method, Set<String> path, Map<String, Integer> known) {
        if (known.containsKey(method)) {
            return known.get(method);
        }
        if (!path.add(method)) {
            must(false, 8, unit, "the method " + method + " calls itself");
            return 0;
        }
        int deepest = 0;
        for (String called : calls.getOrDefault(method, Set.of())) {
            deepest = Math.max(deepest, depth(called, path, known));
        }
        path.remove(method);
        known.put(method, deepest + 1);
        return deepest + 1;
    }

    private void depths() {
        Map<String, Integer> known = new HashMap<>();
        for (String method : calls.keySet()) {
            int deep = depth(method, new HashSet<>(), known);
            must(deep <= MOST_DEEP, 10, unit, "the calls of " + method + " go " + deep + " deep");
        }
    }

    private int look() {
        must(unit.getTypeDecls().size() == 1 && unit.getTypeDecls().get(0) instanceof ClassTree, 1, unit, "one class");
        if (wrong == 0) {
            collect((ClassTree) unit.getTypeDecls().get(0));
            scan(unit, null);
            depths();
        }
        return wrong;
    }

    public static void main(String[] args) throws IOException {
        JavaCompiler compiler = ToolProvider.getSystemJavaCompiler();
        StandardJavaFileManager files = compiler.getStandardFileManager(null, null, null);
        JavacTask task = (JavacTask) compiler.getTask(null, files, null, null, null,
                files.getJavaFileObjects(Path.of(PROGRAM)));
        CompilationUnitTree unit = task.parse().iterator().next();
        int wrong = new LanguageTest(unit, Trees.instance(task).getSourcePositions()).look();
        System.out.println(wrong == 0 ? "the program keeps to the language" : wrong + " places are outside the language");
        if (wrong != 0) {
            System.exit(1);
        }
    }
}
