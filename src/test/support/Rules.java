import com.sun.source.tree.*;
import com.sun.source.tree.Tree.Kind;
import com.sun.source.util.JavacTask;
import com.sun.source.util.TreeScanner;
import java.io.IOException;
import java.net.URI;
import java.util.ArrayDeque;
import java.util.Deque;
import java.util.EnumSet;
import java.util.HashMap;
import java.util.HashSet;
import java.util.List;
import java.util.Map;
import java.util.Set;
import java.util.TreeSet;
import javax.lang.model.element.Modifier;
import javax.lang.model.type.TypeKind;
import javax.tools.JavaFileObject;
import javax.tools.SimpleJavaFileObject;
import javax.tools.ToolProvider;

/**
 * The rules of LANGUAGE.md that can be read off the source's tree: all but rule 7, which only runs can show. They are
 * taken more narrowly than they are written, where that is plainer to check and the class has no need of more: arrays
 * are made in the fields' initialisers alone and have no second name, and a loop is a for with a counter.
 */
final class Rules extends TreeScanner<Void, Void> {
    private static final String NAME = "SeaweedWindows";
    private static final Set<Kind> BANNED = EnumSet.of(Kind.THROW, Kind.TRY, Kind.SYNCHRONIZED, Kind.ASSERT,
        Kind.INSTANCE_OF, Kind.LAMBDA_EXPRESSION, Kind.MEMBER_REFERENCE);
    private static final Set<Kind> COMPARISONS = EnumSet.of(Kind.LESS_THAN, Kind.LESS_THAN_EQUAL, Kind.GREATER_THAN,
        Kind.GREATER_THAN_EQUAL);
    private static final Set<Kind> BANNED_LITERALS = EnumSet.of(Kind.STRING_LITERAL, Kind.FLOAT_LITERAL,
        Kind.DOUBLE_LITERAL, Kind.NULL_LITERAL);

    private final Set<String> broken = new TreeSet<>();
    private final Set<String> publicMethods = new HashSet<>();
    private final Set<String> privateMethods = new HashSet<>();
    private final Set<String> constants = new HashSet<>();
    private final Set<String> arrayFields = new HashSet<>();
    private final Map<String, Set<String>> callsOf = new HashMap<>();
    private final Deque<Tree> above = new ArrayDeque<>();
    private String method = "";
    private int callsAround = 0;
    private int fields = 0;

    /** The rules that the source breaks, each as its number with what was found. */
    static Set<String> brokenBy(String source) throws IOException {
        JavaFileObject file = new SimpleJavaFileObject(URI.create("string:///" + NAME + ".java"), JavaFileObject.Kind.SOURCE) {
            @Override
            public CharSequence getCharContent(boolean ignoreErrors) {
                return source;
            }
        };
        JavacTask task = (JavacTask) ToolProvider.getSystemJavaCompiler()
            .getTask(null, null, null, List.of("-proc:none"), null, List.of(file));
        Rules rules = new Rules();
        for (CompilationUnitTree unit : task.parse()) {
            rules.readUnit(unit);
        }
        return rules.broken;
    }

    private void rule(int number, boolean isKept, Object what) {
        if (!isKept) {
            broken.add("rule " + number + ": " + what);
        }
    }

    private void readUnit(CompilationUnitTree unit) {
        rule(1, unit.getPackage() == null, "a package line");
        rule(3, unit.getImports().isEmpty(), "an import");
        rule(1, unit.getTypeDecls().size() == 1, "not one class");
        if (unit.getTypeDecls().get(0) instanceof ClassTree type) {
            readFace(type);
            scan(unit, null);
            rule(10, fields <= 40, fields + " fields");
            for (String name : callsOf.keySet()) {
                rule(10, depthOf(name, new HashSet<>()) <= 6, "the depth of calls from " + name);
            }
        }
    }

    /** What the scan asks about a name that may stand further down. */
    private void readFace(ClassTree type) {
        Set<Modifier> reach = type.getModifiers().getFlags();
        rule(1, type.getKind() == Kind.CLASS && type.getSimpleName().contentEquals(NAME), "the class " + type.getSimpleName());
        rule(1, reach.contains(Modifier.PUBLIC) && reach.contains(Modifier.FINAL), "the class isn't public and final");
        for (Tree member : type.getMembers()) {
            if (member instanceof MethodTree one) {
                boolean isPrivate = one.getModifiers().getFlags().contains(Modifier.PRIVATE);
                (isPrivate ? privateMethods : publicMethods).add(one.getName().toString());
            } else if (member instanceof VariableTree one && one.getType() instanceof ArrayTypeTree) {
                arrayFields.add(one.getName().toString());
            } else if (member instanceof VariableTree one && one.getModifiers().getFlags().contains(Modifier.STATIC)) {
                constants.add(one.getName().toString());
            }
        }
        for (String name : privateMethods) {
            rule(1, !publicMethods.contains(name), "a private method of the public name " + name);
        }
    }

    /** A method that comes back to itself is told once, and has no depth. */
    private int depthOf(String name, Set<String> around) {
        if (!around.add(name)) {
            rule(8, false, "the recursion of " + name);
            return 0;
        }
        int deepest = 0;
        for (String called : callsOf.getOrDefault(name, Set.of())) {
            deepest = Math.max(deepest, depthOf(called, around));
        }
        around.remove(name);
        return deepest + 1;
    }

    @Override
    public Void scan(Tree tree, Void nothing) {
        if (tree == null) {
            return null;
        }
        rule(6, !BANNED.contains(tree.getKind()), tree);
        above.push(tree);
        super.scan(tree, null);
        above.pop();
        return null;
    }

    @Override
    public Void visitClass(ClassTree type, Void nothing) {
        rule(1, above.size() == 2, "the nested " + type.getSimpleName());
        for (Tree member : type.getMembers()) {
            rule(5, !(member instanceof BlockTree block && block.isStatic()), "a static initialiser");
        }
        return super.visitClass(type, null);
    }

    @Override
    public Void visitMethod(MethodTree one, Void nothing) {
        method = one.getName().toString();
        callsOf.putIfAbsent(method, new HashSet<>());
        Set<Modifier> reach = one.getModifiers().getFlags();
        rule(1, reach.contains(Modifier.PUBLIC) || reach.contains(Modifier.PRIVATE), "the reach of " + method);
        rule(2, one.getReturnType() == null || isNumber(one.getReturnType(), true), "what " + method + " answers");
        rule(6, one.getThrows().isEmpty(), "the throws of " + method);
        rule(10, one.getParameters().size() <= 7, "the parameters of " + method);
        rule(10, one.getBody() == null || one.toString().lines().count() <= 60, "the length of " + method);
        super.visitMethod(one, null);
        method = "";
        return null;
    }

    private static boolean isNumber(Tree type, boolean mayBeVoid) {
        return type instanceof PrimitiveTypeTree one && one.getPrimitiveTypeKind() != TypeKind.FLOAT
            && one.getPrimitiveTypeKind() != TypeKind.DOUBLE && (mayBeVoid || one.getPrimitiveTypeKind() != TypeKind.VOID);
    }

    @Override
    public Void visitVariable(VariableTree one, Void nothing) {
        Tree type = one.getType() instanceof ArrayTypeTree array ? array.getType() : one.getType();
        rule(2, isNumber(type, false), "the type of " + one.getName());
        if (isField()) {
            readField(one);
        } else {
            rule(4, !(one.getType() instanceof ArrayTypeTree), "another name for an array: " + one.getName());
        }
        return super.visitVariable(one, null);
    }

    /** Above a field stand the class and the unit, above what is inside a method more. */
    private boolean isField() {
        return above.size() == 3;
    }

    private void readField(VariableTree one) {
        Set<Modifier> reach = one.getModifiers().getFlags();
        boolean isStatic = reach.contains(Modifier.STATIC);
        boolean isWhole = one.getType().toString().equals("int") || one.getType().toString().equals("long");
        rule(1, reach.contains(Modifier.PRIVATE) || isStatic && reach.contains(Modifier.PUBLIC), "the reach of " + one.getName());
        rule(5, !isStatic || reach.contains(Modifier.FINAL) && isWhole && one.getInitializer() != null
            && !(one.getInitializer() instanceof MethodInvocationTree), "the static " + one.getName());
        fields += isStatic ? 0 : 1;
    }

    @Override
    public Void visitNewArray(NewArrayTree one, Void nothing) {
        boolean isOfAField = above.size() == 4;
        boolean isOneLength = one.getInitializers() == null && one.getDimensions().size() == 1;
        rule(4, isOfAField, "an array made outside a field's initialiser: " + one);
        rule(4, isOneLength && isConstant(one.getDimensions().get(0)), "the length of " + one);
        return super.visitNewArray(one, null);
    }

    private boolean isConstant(Tree length) {
        boolean isLiteral = length instanceof LiteralTree one && one.getValue() instanceof Integer value && value >= 1;
        return isLiteral || length instanceof IdentifierTree && constants.contains(length.toString());
    }

    @Override
    public Void visitNewClass(NewClassTree one, Void nothing) {
        rule(4, false, "an object is made: " + one);
        return super.visitNewClass(one, null);
    }

    @Override
    public Void visitAssignment(AssignmentTree one, Void nothing) {
        rule(4, !isArrayField(one.getVariable()), "an array field is assigned: " + one);
        return super.visitAssignment(one, null);
    }

    @Override
    public Void visitBinary(BinaryTree one, Void nothing) {
        boolean comparesArrays = isArrayField(one.getLeftOperand()) || isArrayField(one.getRightOperand());
        rule(4, !comparesArrays, "arrays are compared: " + one);
        return super.visitBinary(one, null);
    }

    private boolean isArrayField(Tree tree) {
        return arrayFields.contains(tree.toString()) || arrayFields.contains(tree.toString().replace("this.", ""));
    }

    @Override
    public Void visitLiteral(LiteralTree one, Void nothing) {
        rule(2, !BANNED_LITERALS.contains(one.getKind()), "the value " + one);
        return super.visitLiteral(one, null);
    }

    @Override
    public Void visitTypeCast(TypeCastTree one, Void nothing) {
        rule(6, isNumber(one.getType(), false), one);
        return super.visitTypeCast(one, null);
    }

    @Override
    public Void visitMemberSelect(MemberSelectTree one, Void nothing) {
        boolean isOfThis = one.getExpression().toString().equals("this");
        boolean isLength = isArrayField(one.getExpression()) && one.getIdentifier().contentEquals("length");
        rule(3, isOfThis || isLength, one);
        return super.visitMemberSelect(one, null);
    }

    @Override
    public Void visitAnnotation(AnnotationTree one, Void nothing) {
        rule(3, false, one);
        return null;
    }

    @Override
    public Void visitMethodInvocation(MethodInvocationTree one, Void nothing) {
        String called = one.getMethodSelect().toString().replace("this.", "");
        boolean isOwn = publicMethods.contains(called) || privateMethods.contains(called);
        boolean isSuper = called.equals("super") && method.equals("<init>");
        rule(3, isOwn || isSuper, "the call of " + called);
        rule(10, callsAround == 0, "a call inside the arguments of another: " + one);
        callsOf.computeIfAbsent(method, name -> new HashSet<>()).add(called);
        scan(one.getMethodSelect(), null);
        callsAround++;
        scan(one.getArguments(), null);
        callsAround--;
        return null;
    }

    @Override
    public Void visitWhileLoop(WhileLoopTree one, Void nothing) {
        rule(8, false, "a loop without a counter: " + one.getCondition());
        return super.visitWhileLoop(one, null);
    }

    @Override
    public Void visitDoWhileLoop(DoWhileLoopTree one, Void nothing) {
        rule(8, false, "a loop without a counter: " + one.getCondition());
        return super.visitDoWhileLoop(one, null);
    }

    @Override
    public Void visitForLoop(ForLoopTree one, Void nothing) {
        boolean hasBound = one.getCondition() != null && COMPARISONS.contains(one.getCondition().getKind());
        boolean hasCounter = one.getUpdate().size() == 1 && one.getUpdate().get(0).getExpression() instanceof UnaryTree;
        rule(8, hasBound && hasCounter, "the end of the loop " + one.getCondition());
        if (hasBound && hasCounter) {
            Set<String> inBound = namesIn(one.getCondition());
            Set<String> counter = namesIn(one.getUpdate().get(0));
            rule(8, inBound.containsAll(counter), "the loop counts something else than " + one.getCondition());
            rule(8, !changesOneOf(inBound, one.getStatement()), "the loop's body changes " + one.getCondition());
        }
        return super.visitForLoop(one, null);
    }

    private static Set<String> namesIn(Tree tree) {
        Set<String> names = new HashSet<>();
        new TreeScanner<Void, Void>() {
            @Override
            public Void visitIdentifier(IdentifierTree one, Void nothing) {
                names.add(one.getName().toString());
                return null;
            }
        }.scan(tree, null);
        return names;
    }

    private static boolean changesOneOf(Set<String> names, Tree body) {
        Set<String> changed = new HashSet<>();
        new TreeScanner<Void, Void>() {
            @Override
            public Void visitAssignment(AssignmentTree one, Void nothing) {
                changed.add(one.getVariable().toString());
                return super.visitAssignment(one, null);
            }

            @Override
            public Void visitCompoundAssignment(CompoundAssignmentTree one, Void nothing) {
                changed.add(one.getVariable().toString());
                return super.visitCompoundAssignment(one, null);
            }

            @Override
            public Void visitUnary(UnaryTree one, Void nothing) {
                boolean counts = one.toString().contains("++") || one.toString().contains("--");
                if (counts) {
                    changed.add(one.getExpression().toString());
                }
                return super.visitUnary(one, null);
            }
        }.scan(body, null);
        changed.retainAll(names);
        return !changed.isEmpty();
    }
}
