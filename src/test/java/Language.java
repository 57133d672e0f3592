import com.sun.source.tree.*;
import com.sun.source.util.JavacTask;
import com.sun.source.util.SourcePositions;
import com.sun.source.util.TreeScanner;
import com.sun.source.util.Trees;
import java.io.IOException;
import java.net.URI;
import java.util.ArrayList;
import java.util.HashSet;
import java.util.List;
import java.util.Map;
import java.util.Set;
import java.util.TreeMap;
import java.util.TreeSet;
import javax.lang.model.element.Modifier;
import javax.lang.model.type.TypeKind;
import javax.tools.JavaFileObject;
import javax.tools.SimpleJavaFileObject;
import javax.tools.ToolProvider;

/**
 * Holds a source against the rules of LANGUAGE.md that its text can tell. It is stricter than they
 * are where that is easier to see: arrays are made in the initialisers of final fields alone, and
 * every loop is a for whose counter runs from 0 up to a constant.
 */
final class Language extends TreeScanner<Void, Void> {
    private static final int LINES_AT_MOST = 60;
    private static final int DEPTH_AT_MOST = 6;
    private static final int PARAMETERS_AT_MOST = 7;
    private static final int FIELDS_AT_MOST = 40;

    private final List<String> faults = new ArrayList<>();
    private final Set<String> constants = new HashSet<>();
    private final Map<String, Set<String>> callsOf = new TreeMap<>();
    private final Set<String> loopCounters = new HashSet<>();
    private final CompilationUnitTree unit;
    private final SourcePositions positions;
    private String method = "";

    private Language(CompilationUnitTree unit, SourcePositions positions) {
        this.unit = unit;
        this.positions = positions;
    }

    /** The faults found, each beginning with its rule's number and a colon. */
    static List<String> faults(String source) throws IOException {
        JavaFileObject file = new SimpleJavaFileObject(URI.create("string:///VersionHeap.java"),
                JavaFileObject.Kind.SOURCE) {
            @Override
            public CharSequence getCharContent(boolean ignoreEncodingErrors) {
                return source;
            }
        };
        JavacTask task = (JavacTask) ToolProvider.getSystemJavaCompiler().getTask(null, null, null,
                null, null, List.of(file));
        CompilationUnitTree unit = task.parse().iterator().next();
        Language language = new Language(unit, Trees.instance(task).getSourcePositions());
        language.lookAtUnit();
        return language.faults;
    }

    private void fault(int rule, String what, Tree at) {
        long line = unit.getLineMap().getLineNumber(positions.getStartPosition(unit, at));
        faults.add(rule + ": " + what + " in line " + line);
    }

    private void lookAtUnit() {
        if (unit.getPackageName() != null) {
            fault(1, "a package line", unit);
        }
        if (!unit.getImports().isEmpty()) {
            fault(3, "an import", unit);
        }
        if (unit.getTypeDecls().size() != 1) {
            fault(1, "not one class", unit);
        }
        for (Tree type : unit.getTypeDecls()) {
            if (type instanceof ClassTree top && top.getKind() == Tree.Kind.CLASS) {
                lookAtClass(top);
            } else {
                fault(1, "a type that is no class", type);
            }
        }
    }

    private void lookAtClass(ClassTree top) {
        if (top.getExtendsClause() != null || !top.getImplementsClause().isEmpty()) {
            fault(2, "a class or interface above it", top);
        }
        int fields = 0;
        for (Tree member : top.getMembers()) {
            if (member instanceof VariableTree field && isStatic(field.getModifiers())) {
                constants.add(field.getName().toString());
            } else if (member instanceof VariableTree) {
                fields++;
            } else if (member instanceof MethodTree one) {
                callsOf.put(one.getName().toString(), new TreeSet<>());
            }
        }
        if (fields > FIELDS_AT_MOST) {
            fault(10, fields + " fields", top);
        }
        for (Tree member : top.getMembers()) {
            lookAtMember(member);
        }
        for (String name : callsOf.keySet()) {
            lookAtDepth(name, top);
        }
    }

    private void lookAtMember(Tree member) {
        if (member instanceof VariableTree field) {
            lookAtField(field);
        } else if (member instanceof MethodTree one) {
            lookAtMethod(one);
        } else if (member instanceof BlockTree block) {
            fault(block.isStatic() ? 5 : 4, "an initialiser block", member);
        } else {
            fault(1, "a nested type", member);
        }
    }

    private void lookAtField(VariableTree field) {
        lookAtType(field.getType());
        boolean isFinal = field.getModifiers().getFlags().contains(Modifier.FINAL);
        if (isStatic(field.getModifiers())) {
            lookAtConstant(field, isFinal);
            return;
        }
        if (!field.getModifiers().getFlags().contains(Modifier.PRIVATE)) {
            fault(1, "a visible field", field);
        }
        if (field.getType() instanceof ArrayTypeTree) {
            lookAtArrayField(field, isFinal);
        } else {
            scan(field.getInitializer(), null);
        }
    }

    private void lookAtConstant(VariableTree field, boolean isFinal) {
        String type = field.getType().toString();
        if (!isFinal || !(type.equals("int") || type.equals("long"))) {
            fault(5, "a static field that is no constant of int or long", field);
        }
        scan(field.getInitializer(), null);
    }

    private void lookAtArrayField(VariableTree field, boolean isFinal) {
        if (!isFinal || !(field.getInitializer() instanceof NewArrayTree array)) {
            fault(4, "an array field that is not final with its array", field);
        } else if (array.getInitializers() != null || !isConstant(array.getDimensions().get(0))) {
            fault(4, "an array whose length is not told by a constant", field);
        }
    }

    private boolean isConstant(Tree tree) {
        return tree.getKind() == Tree.Kind.INT_LITERAL
                || tree instanceof IdentifierTree name
                && constants.contains(name.getName().toString());
    }

    private static boolean isStatic(ModifiersTree modifiers) {
        return modifiers.getFlags().contains(Modifier.STATIC);
    }

    private void lookAtType(Tree type) {
        Tree plain = type instanceof ArrayTypeTree array ? array.getType() : type;
        if (!(plain instanceof PrimitiveTypeTree primitive)
                || primitive.getPrimitiveTypeKind() == TypeKind.FLOAT
                || primitive.getPrimitiveTypeKind() == TypeKind.DOUBLE) {
            fault(2, "the type " + type, type);
        }
    }

    private void lookAtMethod(MethodTree one) {
        method = one.getName().toString();
        if (one.getReturnType() instanceof ArrayTypeTree) {
            fault(4, method + " answers an array", one);
        } else if (one.getReturnType() != null) {
            lookAtType(one.getReturnType());
        }
        if (one.getParameters().size() > PARAMETERS_AT_MOST) {
            fault(10, method + " takes too many parameters", one);
        }
        if (!one.getThrows().isEmpty()) {
            fault(6, method + " throws", one);
        }
        LineMap lines = unit.getLineMap();
        long from = lines.getLineNumber(positions.getStartPosition(unit, one));
        long to = lines.getLineNumber(positions.getEndPosition(unit, one));
        if (to - from + 1 > LINES_AT_MOST) {
            fault(10, method + " is too long", one);
        }
        scan(one.getParameters(), null);
        scan(one.getBody(), null);
        method = "";
    }

    /** Goes down level by level, so that a circle of calls shows as too great a depth. */
    private void lookAtDepth(String name, Tree at) {
        Set<String> level = Set.of(name);
        for (int depth = 1; !level.isEmpty(); depth++) {
            if (depth > callsOf.size()) {
                fault(8, name + " leads into recursion", at);
                return;
            }
            if (depth == DEPTH_AT_MOST + 1) {
                fault(10, name + " goes too deep", at);
            }
            Set<String> below = new TreeSet<>();
            for (String caller : level) {
                below.addAll(callsOf.get(caller));
            }
            level = below;
        }
    }

    @Override
    public Void visitVariable(VariableTree variable, Void none) {
        if (variable.getType() == null) {
            fault(2, "a variable without a written type", variable);
        } else {
            lookAtType(variable.getType());
        }
        return scan(variable.getInitializer(), none);
    }

    @Override
    public Void visitMethodInvocation(MethodInvocationTree call, Void none) {
        String name = call.getMethodSelect().toString();
        boolean own = call.getMethodSelect() instanceof IdentifierTree && callsOf.containsKey(name);
        if (own && !method.isEmpty()) {
            callsOf.get(method).add(name);
        } else {
            fault(3, "a call of " + name, call);
        }
        for (ExpressionTree argument : call.getArguments()) {
            if (hasCall(argument)) {
                fault(10, "a call inside the arguments of " + name, call);
            }
        }
        scan(call.getMethodSelect(), none);
        return scan(call.getArguments(), none);
    }

    private static boolean hasCall(Tree tree) {
        boolean[] found = new boolean[1];
        new TreeScanner<Void, Void>() {
            @Override
            public Void visitMethodInvocation(MethodInvocationTree call, Void none) {
                found[0] = true;
                return null;
            }
        }.scan(tree, null);
        return found[0];
    }

    @Override
    public Void visitMemberSelect(MemberSelectTree select, Void none) {
        boolean ofArray = select.getIdentifier().contentEquals("length");
        boolean ofThis = select.getExpression().toString().equals("this");
        if (!ofArray && !ofThis) {
            fault(3, "'" + select + "'", select);
        }
        return super.visitMemberSelect(select, none);
    }

    @Override
    public Void visitLiteral(LiteralTree literal, Void none) {
        switch (literal.getKind()) {
            case NULL_LITERAL -> fault(4, "null", literal);
            case STRING_LITERAL, FLOAT_LITERAL, DOUBLE_LITERAL ->
                fault(2, "the literal " + literal, literal);
            default -> { }
        }
        return null;
    }

    @Override
    public Void visitForLoop(ForLoopTree loop, Void none) {
        String counter = counterOf(loop);
        if (counter.isEmpty() || !loopCounters.add(counter)) {
            fault(8, "a loop without a counter against a constant", loop);
        }
        scan(loop.getStatement(), none);
        loopCounters.remove(counter);
        return null;
    }

    /** The counter of a loop "for (int i = 0; i < CONSTANT; i++)", else the empty text. */
    private String counterOf(ForLoopTree loop) {
        boolean countsUp = loop.getInitializer().size() == 1 && loop.getUpdate().size() == 1
                && loop.getInitializer().get(0) instanceof VariableTree
                && loop.getCondition() instanceof BinaryTree;
        if (!countsUp) {
            return "";
        }
        VariableTree start = (VariableTree) loop.getInitializer().get(0);
        BinaryTree bound = (BinaryTree) loop.getCondition();
        String name = start.getName().toString();
        boolean plain = "0".equals("" + start.getInitializer())
                && bound.getKind() == Tree.Kind.LESS_THAN
                && bound.getLeftOperand().toString().equals(name)
                && isConstant(bound.getRightOperand())
                && loop.getUpdate().get(0).toString().equals(name + "++;");
        return plain ? name : "";
    }

    private void lookAtTarget(Tree target) {
        if (loopCounters.contains(target.toString())) {
            fault(8, "a loop's counter is changed in the loop", target);
        }
    }

    @Override
    public Void visitAssignment(AssignmentTree assignment, Void none) {
        lookAtTarget(assignment.getVariable());
        return super.visitAssignment(assignment, none);
    }

    @Override
    public Void visitCompoundAssignment(CompoundAssignmentTree assignment, Void none) {
        lookAtTarget(assignment.getVariable());
        return super.visitCompoundAssignment(assignment, none);
    }

    @Override
    public Void visitUnary(UnaryTree unary, Void none) {
        switch (unary.getKind()) {
            case POSTFIX_INCREMENT, POSTFIX_DECREMENT, PREFIX_INCREMENT, PREFIX_DECREMENT ->
                lookAtTarget(unary.getExpression());
            default -> { }
        }
        return super.visitUnary(unary, none);
    }

    @Override
    public Void visitTypeCast(TypeCastTree cast, Void none) {
        if (!(cast.getType() instanceof PrimitiveTypeTree)) {
            fault(6, "a cast of a reference", cast);
        }
        return super.visitTypeCast(cast, none);
    }

    @Override
    public Void scan(Tree tree, Void none) {
        if (tree == null) {
            return null;
        }
        switch (tree.getKind()) {
            case NEW_ARRAY, NEW_CLASS -> fault(4, "something is made outside the fields", tree);
            case CLASS, INTERFACE, ENUM, RECORD -> fault(1, "a nested type", tree);
            case WHILE_LOOP, DO_WHILE_LOOP, ENHANCED_FOR_LOOP ->
                fault(8, "a loop without a counter against a constant", tree);
            case THROW, TRY, CATCH, SYNCHRONIZED, ASSERT, INSTANCE_OF, LAMBDA_EXPRESSION,
                MEMBER_REFERENCE -> fault(6, tree.getKind().toString(), tree);
            case DIVIDE, REMAINDER, DIVIDE_ASSIGNMENT, REMAINDER_ASSIGNMENT ->
                fault(7, "a division", tree);
            default -> { }
        }
        return super.scan(tree, none);
    }
}
