import com.sun.source.tree.ArrayAccessTree;
import com.sun.source.tree.AssignmentTree;
import com.sun.source.tree.BinaryTree;
import com.sun.source.tree.CompoundAssignmentTree;
import com.sun.source.tree.ForLoopTree;
import com.sun.source.tree.IdentifierTree;
import com.sun.source.tree.LiteralTree;
import com.sun.source.tree.ParenthesizedTree;
import com.sun.source.tree.StatementTree;
import com.sun.source.tree.Tree;
import com.sun.source.tree.UnaryTree;
import com.sun.source.tree.VariableTree;
import com.sun.source.util.TreeScanner;
import java.util.ArrayList;
import java.util.HashMap;
import java.util.List;
import java.util.Map;

/** What can be read from pieces of a syntax tree alone, without knowing what their names mean. */
final class Syntax {
    private Syntax() {
    }

    /** The value of a sum or product of numbers and named constants, or null if it is none. */
    static Long constant(Tree tree, Map<String, Long> constants) {
        if (tree instanceof ParenthesizedTree inner) {
            return constant(inner.getExpression(), constants);
        }
        if (tree instanceof LiteralTree literal) {
            return literal.getValue() instanceof Number number ? Long.valueOf(number.longValue()) : null;
        }
        if (tree instanceof IdentifierTree name) {
            return constants.get(name.getName().toString());
        }
        if (!(tree instanceof BinaryTree binary)) {
            return null;
        }
        Long left = constant(binary.getLeftOperand(), constants);
        Long right = constant(binary.getRightOperand(), constants);
        if (left == null || right == null) {
            return null;
        }
        switch (tree.getKind()) {
            case PLUS:
                return left + right;
            case MINUS:
                return left - right;
            case MULTIPLY:
                return left * right;
            default:
                return null;
        }
    }

    /** All comparisons in a piece of a program, as they are written. */
    static List<String> comparisons(Tree tree) {
        List<String> found = new ArrayList<>();
        new TreeScanner<Void, Void>() {
            @Override
            public Void visitBinary(BinaryTree binary, Void nothing) {
                switch (binary.getKind()) {
                    case LESS_THAN, LESS_THAN_EQUAL, GREATER_THAN, GREATER_THAN_EQUAL:
                        found.add(binary.toString());
                        break;
                    default:
                        break;
                }
                return super.visitBinary(binary, nothing);
            }
        }.scan(tree, null);
        return found;
    }

    /** The index is a variable that the same method compares with the length of the same array and with 0. */
    static boolean isGuarded(ArrayAccessTree access, Tree method) {
        String index = access.getIndex().toString();
        List<String> found = comparisons(method);
        boolean isBelow = found.contains(index + " < " + access.getExpression() + ".length");
        return isBelow && (found.contains(index + " >= 0") || isCounter(index, method));
    }

    private static boolean isCounter(String name, Tree method) {
        Map<String, Boolean> counters = new HashMap<>();
        new TreeScanner<Void, Void>() {
            @Override
            public Void visitForLoop(ForLoopTree loop, Void nothing) {
                if (name.equals(counterOf(loop))) {
                    counters.merge(name, startsUpwards(loop), Boolean::logicalAnd);
                }
                return super.visitForLoop(loop, nothing);
            }
        }.scan(method, null);
        return counters.getOrDefault(name, false);
    }

    private static boolean startsUpwards(ForLoopTree loop) {
        VariableTree counter = (VariableTree) loop.getInitializer().get(0);
        Long start = constant(counter.getInitializer(), Map.of());
        return start != null && start >= 0 && stepOf(loop).endsWith("++");
    }

    private static String counterOf(ForLoopTree loop) {
        List<? extends StatementTree> starts = loop.getInitializer();
        return starts.size() == 1 && starts.get(0) instanceof VariableTree counter
                ? counter.getName().toString() : null;
    }

    private static String stepOf(ForLoopTree loop) {
        return loop.getUpdate().get(0).getExpression().toString();
    }

    /** A for loop with one counter, which is compared with a bound, moved by a step and by nothing else. */
    static boolean hasVisibleEnd(ForLoopTree loop) {
        String counter = counterOf(loop);
        if (counter == null || loop.getCondition() == null || loop.getUpdate().size() != 1) {
            return false;
        }
        String step = stepOf(loop);
        boolean rises = step.matches(counter + "(\\+\\+| \\+= [1-9]\\d*)");
        boolean falls = step.matches(counter + "(--| -= [1-9]\\d*)");
        boolean isBounded = false;
        for (String condition : conditions(loop.getCondition())) {
            isBounded |= rises && condition.matches(counter + " <=? [^&|]+");
            isBounded |= falls && condition.matches(counter + " >=? [^&|]+");
        }
        return isBounded && !moves(counter, loop.getStatement());
    }

    /** What must hold together for a condition to hold. */
    private static List<String> conditions(Tree tree) {
        if (tree.getKind() != Tree.Kind.CONDITIONAL_AND) {
            return List.of(tree.toString());
        }
        BinaryTree both = (BinaryTree) tree;
        List<String> all = new ArrayList<>(conditions(both.getLeftOperand()));
        all.addAll(conditions(both.getRightOperand()));
        return all;
    }

    private static boolean moves(String name, Tree body) {
        boolean[] moved = new boolean[1];
        new TreeScanner<Void, Void>() {
            @Override
            public Void visitAssignment(AssignmentTree tree, Void nothing) {
                moved[0] |= tree.getVariable().toString().equals(name);
                return super.visitAssignment(tree, nothing);
            }

            @Override
            public Void visitCompoundAssignment(CompoundAssignmentTree tree, Void nothing) {
                moved[0] |= tree.getVariable().toString().equals(name);
                return super.visitCompoundAssignment(tree, nothing);
            }

            @Override
            public Void visitUnary(UnaryTree tree, Void nothing) {
                boolean changes = tree.toString().contains("++") || tree.toString().contains("--");
                moved[0] |= changes && tree.getExpression().toString().equals(name);
                return super.visitUnary(tree, nothing);
            }
        }.scan(body, null);
        return moved[0];
    }
}
