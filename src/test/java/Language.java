import com.sun.source.tree.*;
import com.sun.source.util.JavacTask;
import com.sun.source.util.SourcePositions;
import com.sun.source.util.TreeScanner;
import com.sun.source.util.Trees;
import java.io.IOException;
import java.io.UncheckedIOException;
import java.net.URI;
import java.util.ArrayList;
import java.util.HashSet;
import java.util.List;
import java.util.Map;
import java.util.Set;
import java.util.TreeMap;
import java.util.TreeSet;
import javax.lang.model.element.Modifier;
import javax.lang.model.type.TypeKind;
import javax.tools.JavaFileObject;
import javax.tools.SimpleJavaFileObject;
import javax.tools.ToolProvider;

/** What in a source text stands outside LANGUAGE.md, as far as its words alone tell, without running it. */
final class Language extends TreeScanner<Void, Void> {
    private static final int MOST_PARAMETERS = 7;
    private static final int MOST_LINES = 60;
    private static final int MOST_DEEP = 6;
    private static final int MOST_FIELDS = 40;

    private static final Set<Tree.Kind> NOT_NUMBERS = Set.of(
            Tree.Kind.STRING_LITERAL, Tree.Kind.FLOAT_LITERAL, Tree.Kind.DOUBLE_LITERAL);
    private static final Set<Tree.Kind> NOT_CONSTANT = Set.of(
            Tree.Kind.METHOD_INVOCATION, Tree.Kind.MEMBER_SELECT, Tree.Kind.NEW_ARRAY, Tree.Kind.NEW_CLASS,
            Tree.Kind.ARRAY_ACCESS);

    private final Set<String> faults = new TreeSet<>();
    private final Map<String, Set<String>> callsOf = new TreeMap<>();
    private final Set<String> constants = new HashSet<>();
    private final Set<String> arrayFields = new HashSet<>();
    private final CompilationUnitTree unit;
    private final SourcePositions positions;

    private Set<String> arrays = arrayFields;
    private Set<String> callsHere = new HashSet<>();
    private int insideArguments = 0;

    private Language(CompilationUnitTree unit, SourcePositions positions) {
        this.unit = unit;
        this.positions = positions;
    }

    /** Each fault begins with the number of its rule. */
    static Set<String> faultsOf(String source) {
        try {
            JavacTask task = (JavacTask) ToolProvider.getSystemJavaCompiler()
                    .getTask(null, null, null, List.of("--release", "17"), null, List.of(inMemory(source)));
            CompilationUnitTree unit = task.parse().iterator().next();
            Language language = new Language(unit, Trees.instance(task).getSourcePositions());
            language.read();
            return language.faults;
        } catch (IOException unread) {
            throw new UncheckedIOException(unread);
        }
    }

    private static JavaFileObject inMemory(String source) {
        return new SimpleJavaFileObject(URI.create("string:///RadixBig.java"), JavaFileObject.Kind.SOURCE) {
            @Override
            public CharSequence getCharContent(boolean ignoreEncodingErrors) {
                return source;
            }
        };
    }

    private void fault(int rule, String what) {
        faults.add("rule " + rule + ": " + what);
    }

    private void faultIf(boolean found, int rule, Object what) {
        if (found) {
            fault(rule, what.toString());
        }
    }

    private void read() {
        faultIf(unit.getPackage() != null, 1, "a package line");
        faultIf(!unit.getImports().isEmpty(), 3, unit.getImports());
        faultIf(unit.getTypeDecls().size() != 1, 1, "not one class");
        for (Tree type : unit.getTypeDecls()) {
            if (type.getKind() == Tree.Kind.CLASS) {
                readClass((ClassTree) type);
            } else {
                fault(1, "not a class: " + type.getKind());
            }
        }
    }

    private void readClass(ClassTree type) {
        boolean open = type.getModifiers().getFlags().equals(Set.of(Modifier.PUBLIC, Modifier.FINAL));
        faultIf(!open || !type.getSimpleName().contentEquals("RadixBig"), 1, "the class is not the document's");
        faultIf(type.getExtendsClause() != null || !type.getImplementsClause().isEmpty(), 3, "a class above it");
        faultIf(!type.getTypeParameters().isEmpty(), 2, "type parameters");
        scan(type.getModifiers(), null);
        collectNames(type);
        for (Tree member : type.getMembers()) {
            switch (member.getKind()) {
                case METHOD -> readMethod((MethodTree) member);
                case VARIABLE -> readField((VariableTree) member);
                case BLOCK -> fault(5, "an initialiser without a field");
                default -> fault(1, "a member that is neither field nor method: " + member.getKind());
            }
        }
        for (String method : callsOf.keySet()) {
            followCalls(method, List.of());
        }
    }

    private void collectNames(ClassTree type) {
        Set<String> open = new HashSet<>();
        Set<String> closed = new HashSet<>();
        int held = 0;
        for (Tree member : type.getMembers()) {
            if (member instanceof MethodTree method) {
                boolean isPrivate = method.getModifiers().getFlags().contains(Modifier.PRIVATE);
                (isPrivate ? closed : open).add(method.getName().toString());
                callsOf.put(method.getName().toString(), new TreeSet<>());
            } else if (member instanceof VariableTree field) {
                boolean isStatic = field.getModifiers().getFlags().contains(Modifier.STATIC);
                (isStatic ? constants : new HashSet<String>()).add(field.getName().toString());
                (isArray(field) ? arrayFields : new HashSet<String>()).add(field.getName().toString());
                held += isStatic ? 0 : 1;
            }
        }
        closed.retainAll(open);
        faultIf(!closed.isEmpty(), 1, "private methods with a public name: " + closed);
        faultIf(held > MOST_FIELDS, 10, held + " fields");
    }

    private static boolean isArray(VariableTree variable) {
        return variable.getType() instanceof ArrayTypeTree;
    }

    private void readField(VariableTree field) {
        Set<Modifier> flags = field.getModifiers().getFlags();
        scan(field.getModifiers(), null);
        checkType(field.getType(), field);
        faultIf(!flags.contains(Modifier.PRIVATE), 1, "not private: " + field);
        if (flags.contains(Modifier.STATIC)) {
            faultIf(!flags.contains(Modifier.FINAL) || !isIntOrLong(field.getType()), 5, field);
            faultIf(!isConstant(field.getInitializer()), 5, field);
        } else if (isArray(field)) {
            faultIf(!flags.contains(Modifier.FINAL) || !isPlainArray(field.getInitializer()), 4, field);
        } else {
            scan(field.getInitializer(), null);
        }
    }

    private static boolean isIntOrLong(Tree type) {
        return type instanceof PrimitiveTypeTree primitive
                && Set.of(TypeKind.INT, TypeKind.LONG).contains(primitive.getPrimitiveTypeKind());
    }

    /** One length, a literal or a constant; that it is 1 or more is seen only in an object. */
    private boolean isPlainArray(ExpressionTree made) {
        return made instanceof NewArrayTree array && array.getInitializers() == null
                && array.getDimensions().size() == 1 && isConstant(array.getDimensions().get(0));
    }

    private boolean isConstant(ExpressionTree value) {
        if (value == null) {
            return false;
        }
        boolean[] good = {true};
        new TreeScanner<Void, Void>() {
            @Override
            public Void scan(Tree tree, Void nothing) {
                if (tree != null) {
                    boolean known = !(tree instanceof IdentifierTree) || constants.contains(tree.toString());
                    good[0] &= known && !NOT_CONSTANT.contains(tree.getKind());
                }
                return super.scan(tree, nothing);
            }
        }.scan(value, null);
        return good[0];
    }

    private void readMethod(MethodTree method) {
        String name = method.getName().toString();
        faultIf(method.getParameters().size() > MOST_PARAMETERS, 10, name + " takes too much");
        faultIf(method.getReturnType() instanceof ArrayTypeTree, 4, name + " answers an array");
        faultIf(!method.getTypeParameters().isEmpty(), 2, name + " has type parameters");
        faultIf(!method.getThrows().isEmpty(), 6, name + " throws");
        faultIf(linesOf(method) > MOST_LINES, 10, name + " is too long");
        Set<Modifier> flags = method.getModifiers().getFlags();
        faultIf(!flags.contains(Modifier.PUBLIC) && !flags.contains(Modifier.PRIVATE), 1, name + " can be seen");
        if (method.getReturnType() != null) {
            checkType(method.getReturnType(), name);
        }
        callsHere = callsOf.get(name);
        arrays = arraysSeenIn(method);
        scan(method.getModifiers(), null);
        scan(method.getParameters(), null);
        scan(method.getBody(), null);
    }

    private long linesOf(MethodTree method) {
        long first = unit.getLineMap().getLineNumber(positions.getStartPosition(unit, method));
        long last = unit.getLineMap().getLineNumber(positions.getEndPosition(unit, method));
        return last - first + 1;
    }

    private Set<String> arraysSeenIn(MethodTree method) {
        Set<String> seen = new HashSet<>(arrayFields);
        new TreeScanner<Void, Void>() {
            @Override
            public Void visitVariable(VariableTree variable, Void nothing) {
                (isArray(variable) ? seen : new HashSet<String>()).add(variable.getName().toString());
                return super.visitVariable(variable, nothing);
            }
        }.scan(method, null);
        return seen;
    }

    private void checkType(Tree type, Object where) {
        Tree element = type instanceof ArrayTypeTree array ? array.getType() : type;
        faultIf(!(element instanceof PrimitiveTypeTree), 2, type + " in " + where);
        scan(type, null);
    }

    private void followCalls(String method, List<String> above) {
        if (above.contains(method)) {
            fault(8, "recursion: " + above + " " + method);
            return;
        }
        List<String> chain = new ArrayList<>(above);
        chain.add(method);
        faultIf(chain.size() > MOST_DEEP, 10, "calls too deep: " + chain);
        for (String called : callsOf.get(method)) {
            followCalls(called, chain);
        }
    }

    @Override
    public Void visitVariable(VariableTree variable, Void nothing) {
        scan(variable.getModifiers(), null);
        if (variable.getType() != null) {
            checkType(variable.getType(), variable);
        }
        // A local variable may name an array, once: anything later would be an assignment.
        return isName(variable.getInitializer()) ? null : scan(variable.getInitializer(), null);
    }

    private static boolean isName(Tree tree) {
        return tree instanceof IdentifierTree;
    }

    @Override
    public Void visitPrimitiveType(PrimitiveTypeTree type, Void nothing) {
        TypeKind kind = type.getPrimitiveTypeKind();
        faultIf(kind == TypeKind.FLOAT || kind == TypeKind.DOUBLE, 2, type);
        return null;
    }

    @Override
    public Void visitLiteral(LiteralTree literal, Void nothing) {
        Tree.Kind kind = literal.getKind();
        faultIf(kind == Tree.Kind.NULL_LITERAL, 4, "null");
        faultIf(NOT_NUMBERS.contains(kind), 2, literal);
        return null;
    }

    @Override
    public Void visitMethodInvocation(MethodInvocationTree call, Void nothing) {
        boolean own = isName(call.getMethodSelect()) && callsOf.containsKey(call.getMethodSelect().toString());
        faultIf(!own, 3, call);
        faultIf(insideArguments > 0, 10, "a call inside another's arguments: " + call);
        if (own) {
            callsHere.add(call.getMethodSelect().toString());
        }
        insideArguments++;
        for (ExpressionTree argument : call.getArguments()) {
            if (!isName(argument)) {
                scan(argument, null);
            }
        }
        insideArguments--;
        return null;
    }

    @Override
    public Void visitMemberSelect(MemberSelectTree select, Void nothing) {
        boolean length = select.getIdentifier().contentEquals("length") && arrays.contains(select.getExpression().toString());
        faultIf(!length, 3, select);
        return null;
    }

    @Override
    public Void visitArrayAccess(ArrayAccessTree access, Void nothing) {
        if (!isName(access.getExpression())) {
            scan(access.getExpression(), null);
        }
        return scan(access.getIndex(), null);
    }

    /** Reached only where the name is neither handed on nor followed by a place. */
    @Override
    public Void visitIdentifier(IdentifierTree name, Void nothing) {
        faultIf(arrays.contains(name.getName().toString()), 4, name + " is compared, answered or assigned");
        return null;
    }

    @Override
    public Void visitNewArray(NewArrayTree made, Void nothing) {
        fault(4, "made outside a field's initialiser: " + made);
        return null;
    }

    @Override
    public Void visitNewClass(NewClassTree made, Void nothing) {
        fault(4, "an object: " + made);
        return null;
    }

    @Override
    public Void visitClass(ClassTree inner, Void nothing) {
        fault(1, "a class inside: " + inner.getSimpleName());
        return null;
    }

    @Override
    public Void visitAnnotation(AnnotationTree annotation, Void nothing) {
        fault(3, annotation.toString());
        return null;
    }

    @Override
    public Void visitTypeCast(TypeCastTree cast, Void nothing) {
        faultIf(!(cast.getType() instanceof PrimitiveTypeTree), 6, cast);
        return super.visitTypeCast(cast, nothing);
    }

    @Override
    public Void visitThrow(ThrowTree tree, Void nothing) {
        return ruledOut(tree);
    }

    @Override
    public Void visitTry(TryTree tree, Void nothing) {
        return ruledOut(tree);
    }

    @Override
    public Void visitSynchronized(SynchronizedTree tree, Void nothing) {
        return ruledOut(tree);
    }

    @Override
    public Void visitAssert(AssertTree tree, Void nothing) {
        return ruledOut(tree);
    }

    @Override
    public Void visitInstanceOf(InstanceOfTree tree, Void nothing) {
        return ruledOut(tree);
    }

    @Override
    public Void visitLambdaExpression(LambdaExpressionTree tree, Void nothing) {
        return ruledOut(tree);
    }

    @Override
    public Void visitMemberReference(MemberReferenceTree tree, Void nothing) {
        return ruledOut(tree);
    }

    private Void ruledOut(Tree tree) {
        fault(6, tree.getKind() + ": " + tree);
        return null;
    }

    @Override
    public Void visitForLoop(ForLoopTree loop, Void nothing) {
        faultIf(!Counter.bounds(loop.getCondition(), loop), 8, "no counter is seen: " + loop);
        return super.visitForLoop(loop, nothing);
    }

    @Override
    public Void visitWhileLoop(WhileLoopTree loop, Void nothing) {
        faultIf(!Counter.bounds(loop.getCondition(), loop), 8, "no counter is seen: " + loop);
        return super.visitWhileLoop(loop, nothing);
    }

    @Override
    public Void visitDoWhileLoop(DoWhileLoopTree loop, Void nothing) {
        faultIf(!Counter.bounds(loop.getCondition(), loop), 8, "no counter is seen: " + loop);
        return super.visitDoWhileLoop(loop, nothing);
    }

    @Override
    public Void visitEnhancedForLoop(EnhancedForLoopTree loop, Void nothing) {
        scan(loop.getVariable(), null);
        if (!isName(loop.getExpression())) {
            scan(loop.getExpression(), null);
        }
        return scan(loop.getStatement(), null);
    }
}
