import com.sun.source.tree.AssignmentTree;
import com.sun.source.tree.BinaryTree;
import com.sun.source.tree.CompoundAssignmentTree;
import com.sun.source.tree.ExpressionTree;
import com.sun.source.tree.IdentifierTree;
import com.sun.source.tree.ParenthesizedTree;
import com.sun.source.tree.Tree;
import com.sun.source.tree.UnaryTree;
import com.sun.source.util.TreeScanner;
import java.util.Set;

/** The counter of a loop: it is compared with a bound, and all that the loop does to it is to step towards that bound. */
final class Counter extends TreeScanner<Void, Void> {
    private static final Set<Tree.Kind> UPWARDS = Set.of(Tree.Kind.LESS_THAN, Tree.Kind.LESS_THAN_EQUAL);
    private static final Set<Tree.Kind> DOWNWARDS = Set.of(Tree.Kind.GREATER_THAN, Tree.Kind.GREATER_THAN_EQUAL);
    private static final Set<Tree.Kind> INCREMENTS = Set.of(Tree.Kind.POSTFIX_INCREMENT, Tree.Kind.PREFIX_INCREMENT);
    private static final Set<Tree.Kind> DECREMENTS = Set.of(Tree.Kind.POSTFIX_DECREMENT, Tree.Kind.PREFIX_DECREMENT);

    private final String name;
    private final Set<Tree.Kind> steps;
    private int towards = 0;
    private int otherwise = 0;

    private Counter(String name, Set<Tree.Kind> steps) {
        this.name = name;
        this.steps = steps;
    }

    /** Of conditions joined by &&, one is enough: each of them can end the loop. */
    static boolean bounds(ExpressionTree condition, Tree loop) {
        if (condition instanceof ParenthesizedTree inner) {
            return bounds(inner.getExpression(), loop);
        }
        if (!(condition instanceof BinaryTree both)) {
            return false;
        }
        if (both.getKind() == Tree.Kind.CONDITIONAL_AND) {
            return bounds(both.getLeftOperand(), loop) || bounds(both.getRightOperand(), loop);
        }
        boolean upwards = UPWARDS.contains(both.getKind());
        boolean compares = upwards || DOWNWARDS.contains(both.getKind());
        if (!compares || !(both.getLeftOperand() instanceof IdentifierTree)) {
            return false;
        }
        Counter counter = new Counter(both.getLeftOperand().toString(), upwards ? INCREMENTS : DECREMENTS);
        counter.scan(loop, null);
        return counter.towards > 0 && counter.otherwise == 0;
    }

    private boolean isIt(Tree tree) {
        return tree instanceof IdentifierTree found && found.getName().contentEquals(name);
    }

    @Override
    public Void visitUnary(UnaryTree unary, Void nothing) {
        if (isIt(unary.getExpression()) && steps.contains(unary.getKind())) {
            towards++;
        } else if (isIt(unary.getExpression()) && (INCREMENTS.contains(unary.getKind()) || DECREMENTS.contains(unary.getKind()))) {
            otherwise++;
        }
        return super.visitUnary(unary, nothing);
    }

    @Override
    public Void visitAssignment(AssignmentTree assignment, Void nothing) {
        otherwise += isIt(assignment.getVariable()) ? 1 : 0;
        return super.visitAssignment(assignment, nothing);
    }

    @Override
    public Void visitCompoundAssignment(CompoundAssignmentTree assignment, Void nothing) {
        otherwise += isIt(assignment.getVariable()) ? 1 : 0;
        return super.visitCompoundAssignment(assignment, nothing);
    }
}
