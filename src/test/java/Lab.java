/** Short ways to bring a laboratory into a state and to look at one. */
final class Lab {
    private Lab() {
    }

    /** A puzzle whose moves a, b and so on have these cycles. */
    static PermutationPuzzle of(int positions, String... moves) {
        PermutationPuzzle puzzle = new PermutationPuzzle();
        puzzle.reset(positions);
        for (int i = 0; i < moves.length; i++) {
            define(puzzle, i, moves[i]);
        }
        return puzzle;
    }

    static void type(PermutationPuzzle puzzle, String text) {
        for (int i = 0; i < text.length(); i++) {
            puzzle.append(text.charAt(i));
        }
    }

    static int define(PermutationPuzzle puzzle, int move, String cycles) {
        type(puzzle, cycles);
        return puzzle.define(move);
    }

    static int store(PermutationPuzzle puzzle, int slot, String word) {
        type(puzzle, word);
        return puzzle.store(slot);
    }

    /** The letters of a word as a text, with capitals for inverses. */
    static String letters(PermutationPuzzle puzzle, int slot) {
        StringBuilder letters = new StringBuilder();
        for (int i = 0; i < puzzle.wordLength(slot); i++) {
            int letter = puzzle.letter(slot, i);
            letters.append((char) ((letter % 2 == 0 ? 'a' : 'A') + letter / 2));
        }
        return letters.toString();
    }

    static String tokens(PermutationPuzzle puzzle) {
        StringBuilder tokens = new StringBuilder();
        for (int i = 1; i <= puzzle.positions(); i++) {
            tokens.append(puzzle.token(i));
        }
        return tokens.toString();
    }

    /** Brings the tokens into an order, the first of them on position 1. */
    static void arrange(PermutationPuzzle puzzle, String tokens) {
        for (int i = 1; i <= tokens.length(); i++) {
            int wanted = tokens.charAt(i - 1) - '0';
            int at = i;
            while (puzzle.token(at) != wanted) {
                at++;
            }
            puzzle.exchange(i, at);
        }
    }

    static String targets(PermutationPuzzle puzzle, int move) {
        StringBuilder targets = new StringBuilder();
        try {
            for (int i = 1; i <= puzzle.positions(); i++) {
                targets.append(puzzle.target(move, i));
            }
        } catch (java.util.NoSuchElementException e) {
            return "undefined";
        }
        return targets.toString();
    }

    /** An element of a row, which no int that is greater than it can take anything from. */
    static double element(PermutationPuzzle puzzle, int row, int index) {
        return puzzle.remainder(row, index, Integer.MAX_VALUE);
    }

    static String error(PermutationPuzzle puzzle) {
        try {
            return Integer.toString(puzzle.errorPosition());
        } catch (java.util.NoSuchElementException e) {
            return "none";
        }
    }

    /** All that calls can tell of the state without changing it, but the buffer. */
    static String state(PermutationPuzzle puzzle) {
        StringBuilder state = new StringBuilder();
        state.append(tokens(puzzle)).append(" error ").append(error(puzzle));
        for (int move = 0; move < 5; move++) {
            state.append(' ').append(targets(puzzle, move));
        }
        for (int slot = 0; slot < 4; slot++) {
            state.append(" [").append(letters(puzzle, slot)).append(']');
        }
        for (int row = 0; row < 2; row++) {
            for (int index = 0; index < 24; index++) {
                state.append(' ').append(element(puzzle, row, index));
            }
        }
        return state.toString();
    }

    /** How many characters are in the buffer; one more is in it afterwards. */
    static int typed(PermutationPuzzle puzzle) {
        return puzzle.append('a') - 1;
    }
}
