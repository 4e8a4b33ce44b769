import com.sun.source.tree.AssignmentTree;
import com.sun.source.tree.BinaryTree;
import com.sun.source.tree.BlockTree;
import com.sun.source.tree.CompoundAssignmentTree;
import com.sun.source.tree.ExpressionStatementTree;
import com.sun.source.tree.ExpressionTree;
import com.sun.source.tree.ForLoopTree;
import com.sun.source.tree.IdentifierTree;
import com.sun.source.tree.ParenthesizedTree;
import com.sun.source.tree.Tree;
import com.sun.source.tree.UnaryTree;
import com.sun.source.tree.WhileLoopTree;
import com.sun.source.util.TreeScanner;
import java.util.HashMap;
import java.util.List;
import java.util.Map;

/**
 * Rule 9 of LANGUAGE.md: whether a loop's end can be seen from its own lines. A counter is compared with its bound,
 * each time around goes on towards it, and nothing within sets it back.
 */
final class Loops {
    private Loops() {
    }

    static boolean ends(ForLoopTree loop) {
        return loop.getCondition() != null && ends(loop.getCondition(), loop.getUpdate(), loop.getStatement());
    }

    static boolean ends(WhileLoopTree loop) {
        Tree body = loop.getStatement();
        return body instanceof BlockTree && ends(loop.getCondition(), ((BlockTree) body).getStatements(), body);
    }

    private static boolean ends(ExpressionTree condition, List<? extends Tree> steps, Tree body) {
        Map<String, Integer> counters = new HashMap<>();
        collect(condition, counters);
        for (Map.Entry<String, Integer> counter : counters.entrySet()) {
            boolean goesOn = false;
            for (Tree step : steps) {
                goesOn |= step instanceof ExpressionStatementTree && counter.getValue()
                        == direction(((ExpressionStatementTree) step).getExpression(), counter.getKey());
            }
            if (goesOn && !isSetBack(body, counter.getKey(), counter.getValue())) {
                return true;
            }
        }
        return false;
    }

    /** What the condition compares with a bound: 1, if it must rise until it is no longer so, -1, if it must fall. */
    private static void collect(ExpressionTree condition, Map<String, Integer> counters) {
        if (condition instanceof ParenthesizedTree) {
            collect(((ParenthesizedTree) condition).getExpression(), counters);
        } else if (condition instanceof BinaryTree) {
            BinaryTree both = (BinaryTree) condition;
            switch (both.getKind()) {
                case CONDITIONAL_AND:
                    collect(both.getLeftOperand(), counters);
                    collect(both.getRightOperand(), counters);
                    break;
                case LESS_THAN:
                case LESS_THAN_EQUAL:
                    note(both.getLeftOperand(), 1, counters);
                    break;
                case GREATER_THAN:
                case GREATER_THAN_EQUAL:
                    note(both.getLeftOperand(), -1, counters);
                    break;
                default:
                    break;
            }
        }
    }

    private static void note(ExpressionTree left, int direction, Map<String, Integer> counters) {
        if (left instanceof IdentifierTree) {
            counters.put(left.toString(), direction);
        }
    }

    /** Whether this makes the counter rise (1) or fall (-1); 2, if it does what can't be told; 0, if nothing. */
    private static int direction(Tree tree, String counter) {
        if (tree instanceof UnaryTree && ((UnaryTree) tree).getExpression().toString().equals(counter)) {
            switch (tree.getKind()) {
                case POSTFIX_INCREMENT:
                case PREFIX_INCREMENT:
                    return 1;
                case POSTFIX_DECREMENT:
                case PREFIX_DECREMENT:
                    return -1;
                default:
                    return 0;
            }
        }
        if (tree instanceof CompoundAssignmentTree
                && ((CompoundAssignmentTree) tree).getVariable().toString().equals(counter)) {
            boolean number = ((CompoundAssignmentTree) tree).getExpression().toString().matches("[1-9]\\d*");
            return number && tree.getKind() == Tree.Kind.PLUS_ASSIGNMENT ? 1
                    : number && tree.getKind() == Tree.Kind.MINUS_ASSIGNMENT ? -1 : 2;
        }
        if (tree instanceof AssignmentTree && ((AssignmentTree) tree).getVariable().toString().equals(counter)) {
            boolean rises = ((AssignmentTree) tree).getExpression().toString().startsWith("Math.max(" + counter + ",");
            return rises ? 1 : 2;
        }
        return 0;
    }

    private static boolean isSetBack(Tree body, String counter, int direction) {
        boolean[] found = {false};
        new TreeScanner<Void, Void>() {
            @Override
            public Void scan(Tree tree, Void p) {
                int other = tree == null ? 0 : direction(tree, counter);
                found[0] |= other != 0 && other != direction;
                return super.scan(tree, p);
            }
        }.scan(body, null);
        return found[0];
    }
}
