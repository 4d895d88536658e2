/** Short ways to bring a laboratory into a state and to look at one. */
final class Lab {
    private Lab() {
    }

    /** A puzzle whose moves a, b and so on have these cycles. */
    static PermutationPuzzle of(int positions, String... moves) {
        PermutationPuzzle puzzle = new PermutationPuzzle();
        puzzle.reset(positions);
        for (int i = 0; i < moves.length; i++) {
            define(puzzle, i, moves[i]);
        }
        return puzzle;
    }

    static void type(PermutationPuzzle puzzle, String text) {
        for (int i = 0; i < text.length(); i++) {
            puzzle.append(text.charAt(i));
        }
    }

    static int define(PermutationPuzzle puzzle, int move, String cycles) {
        type(puzzle, cycles);
        return puzzle.define(move);
    }

    static int store(PermutationPuzzle puzzle, int slot, String word) {
        type(puzzle, word);
        return puzzle.store(slot);
    }

    /** The letters of a word as a text, with capitals for inverses. */
    static String letters(PermutationPuzzle puzzle, int slot) {
        StringBuilder letters = new StringBuilder();
        for (int i = 0; i < puzzle.wordLength(slot); i++) {
            int letter = puzzle.letter(slot, i);
            letters.append((char) ((letter % 2 == 0 ? 'a' : 'A') + letter / 2));
        }
        return letters.toString();
    }

    static String tokens(PermutationPuzzle puzzle) {
        StringBuilder tokens = new StringBuilder();
        for (int i = 1; i <= puzzle.positions(); i++) {
            tokens.append(puzzle.token(i));
        }
        return tokens.toString();
    }

    /** Brings the tokens into an order, the first of them on position 1. */
    static void arrange(PermutationPuzzle puzzle, String tokens) {
        for (int i = 1; i <= tokens.length(); i++) {
            int wanted = tokens.charAt(i - 1) - '0';
            int at = i;
            while (puzzle.token(at) != wanted) {
                at++;
            }
            puzzle.exchange(i, at);
        }
    }

    static String targets(PermutationPuzzle puzzle, int move) {
        StringBuilder targets = new StringBuilder();
        try {
            for (int i = 1; i <= puzzle.positions(); i++) {
                targets.append(puzzle.target(move, i));
            }
        } catch (java.util.NoSuchElementException e) {
            return "undefined";
        }
        return targets.toString();
    }

    /** An element of a row, which no int that is greater than it can take anything from. */
    static double element(PermutationPuzzle puzzle, int row, int index) {
        return puzzle.remainder(row, index, Integer.MAX_VALUE);
    }

    static String error(PermutationPuzzle puzzle) {
        try {
            return Integer.toString(puzzle.errorPosition());
        } catch (java.util.NoSuchElementException e) {
            return "none";
        }
    }

    /** All that calls can tell of the state without changing it, but the buffer. */
    static String state(PermutationPuzzle puzzle) {
        StringBuilder state = new StringBuilder(situation(puzzle));
        state.append(" error ").append(error(puzzle)).append(" rows");
        for (int row = 0; row < 2; row++) {
            for (int index = 0; index < 24; index++) {
                state.append(' ').append(element(puzzle, row, index));
            }
        }
        return state.toString();
    }

    /** What a snapshot holds. */
    static String situation(PermutationPuzzle puzzle) {
        StringBuilder situation = new StringBuilder(tokens(puzzle));
        for (int move = 0; move < 5; move++) {
            situation.append(' ').append(targets(puzzle, move));
        }
        for (int slot = 0; slot < 4; slot++) {
            situation.append(" [").append(letters(puzzle, slot)).append(']');
        }
        return situation.toString();
    }

    /** The state with the table of depths, the buffer and the snapshot; it is used up by that. */
    static String everything(PermutationPuzzle puzzle) {
        return state(puzzle) + " table " + table(puzzle) + " buffer " + buffer(puzzle)
                + " snapshot " + saved(puzzle);
    }

    private static String table(PermutationPuzzle puzzle) {
        StringBuilder table = new StringBuilder();
        for (int depth = 0; depth <= puzzle.greatestDepth(); depth++) {
            table.append(puzzle.countAt(depth)).append(' ');
        }
        table.append(puzzle.reachable()).append(' ').append(puzzle.averageDepth());
        return table.toString();
    }

    /** Its length, and how it reads as a word with one name more if it has room for that. */
    private static String buffer(PermutationPuzzle puzzle) {
        String length;
        try {
            length = Integer.toString(typed(puzzle));
        } catch (IllegalStateException e) {
            length = "full";
        }
        try {
            puzzle.store(0);
            return length + ' ' + letters(puzzle, 0);
        } catch (RuntimeException e) {
            return length + ' ' + e.getClass().getSimpleName() + ' ' + error(puzzle);
        }
    }

    private static String saved(PermutationPuzzle puzzle) {
        try {
            puzzle.restore();
        } catch (IllegalStateException e) {
            return "none";
        }
        return situation(puzzle);
    }

    /** How many characters are in the buffer; one more is in it afterwards. */
    static int typed(PermutationPuzzle puzzle) {
        return puzzle.append('a') - 1;
    }

    /**
     * A laboratory with 5 positions in which every part of the state differs from that of a new
     * one, and the snapshot from the present. The moves a, b and c are defined, slot 2 is empty,
     * and all arrangements are reachable.
     */
    static PermutationPuzzle busy() {
        PermutationPuzzle puzzle = idle();
        type(puzzle, "ab'");
        return puzzle;
    }

    /** As busy, but with an empty buffer. */
    static PermutationPuzzle idle() {
        return used("(12345)", "(12)", "(345)");
    }

    /** Its greatest depth is 24, the first for which a row has no element. */
    static PermutationPuzzle deep() {
        return of(7, "(12)(34)", "(25)(37)(46)", "(34)(57)", "(34)(67)");
    }

    /** As idle, but the present arrangement is not reachable. */
    static PermutationPuzzle stuck() {
        return used("(123)", "(12)", "(23)");
    }

    private static PermutationPuzzle used(String a, String b, String c) {
        PermutationPuzzle puzzle = of(5, a, b);
        store(puzzle, 0, "ab'");
        store(puzzle, 3, "<a,b>");
        puzzle.perform(0, 1);
        puzzle.snapshot();
        define(puzzle, 2, c);
        store(puzzle, 0, "ca");
        store(puzzle, 1, "c2");
        puzzle.exchange(1, 4);
        puzzle.fillShares(0);
        puzzle.fillShares(1);
        puzzle.scale(0, 1, 7);
        puzzle.scale(1, 2, -9);
        malform(puzzle, "aaa1");
        return puzzle;
    }

    /** Leaves an error position. */
    static void malform(PermutationPuzzle puzzle, String text) {
        type(puzzle, text);
        try {
            puzzle.store(2);
        } catch (IllegalArgumentException e) {
            return;
        }
        throw new IllegalStateException(text + " is a word");
    }
}
