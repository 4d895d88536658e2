import java.util.function.Consumer;
import java.util.function.ObjIntConsumer;

/** Calls that are refused: what they throw, and that they change nothing else. */
final class Refusals {
    static final int[] NO_MOVES = {-1, 5, Integer.MIN_VALUE, Integer.MAX_VALUE};
    static final int[] NO_SLOTS = {-1, 4, Integer.MIN_VALUE, Integer.MAX_VALUE};
    static final int[] NO_ROWS = {-1, 2, Integer.MIN_VALUE, Integer.MAX_VALUE};
    static final int[] NO_ELEMENTS = {-1, 24, Integer.MIN_VALUE, Integer.MAX_VALUE};
    /** In a busy laboratory, which has 5. */
    static final int[] NO_POSITIONS = {0, 6, -1, Integer.MIN_VALUE, Integer.MAX_VALUE};

    private final Check check;

    Refusals(Check check) {
        this.check = check;
    }

    /** The call throws, and the laboratory is then as it is told. */
    void leaves(String after, Class<? extends RuntimeException> due, PermutationPuzzle puzzle,
            String call, Consumer<PermutationPuzzle> action) {
        check.fails(call, due, () -> action.accept(puzzle));
        check.due("all that is left by " + call, Lab.everything(puzzle), after);
    }

    /** The call throws in a busy laboratory and changes nothing. */
    void busy(Class<? extends RuntimeException> due, String call,
            Consumer<PermutationPuzzle> action) {
        leaves(Lab.everything(Lab.busy()), due, Lab.busy(), call, action);
    }

    /** So does the call with each of these numbers. */
    void each(int[] wrong, Class<? extends RuntimeException> due, String call,
            ObjIntConsumer<PermutationPuzzle> action) {
        for (int number : wrong) {
            busy(due, call + " with " + number, x -> action.accept(x, number));
        }
    }

    void noIndex(int[] wrong, String call, ObjIntConsumer<PermutationPuzzle> action) {
        each(wrong, IndexOutOfBoundsException.class, call, action);
    }
}
