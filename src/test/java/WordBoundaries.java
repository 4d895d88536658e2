import java.util.function.Consumer;

/** The boundaries that promises 9 to 17 name. */
final class WordBoundaries extends Boundaries {
    private static final String NO_SUCH_SLOT =
            "Throws `IndexOutOfBoundsException` if there is no such slot";

    WordBoundaries(Sentences doc, Check check) {
        super(doc, check);
    }

    @Override
    void test() {
        doc.in("Promise 9");
        doc.says("Returns the length of a stored word.", this::lengths);
        doc.says(NO_SUCH_SLOT, this::lengthIndexes);
        doc.in("Promise 10");
        doc.says("`index`: the index of the letter, from 0", this::letterIndex);
        doc.says("Returns 2 times the number of the move, plus 1 if the letter is its inverse.",
                this::letterAnswer);
        doc.says("Throws `IndexOutOfBoundsException` if there is no such slot or letter",
                this::letterIndexes);
        doc.in("Promise 11");
        doc.says("`slot`: the slot of the word, which can be the same", this::invertInPlace);
        doc.says("Returns the length of the inverse.", this::invertAnswer);
        doc.says(NO_SUCH_SLOT, this::invertIndexes);
        doc.in("Promise 12");
        doc.says("`target`: the slot in which the conjugate is stored, which can be that of u or v",
                this::conjugateTargets);
        doc.says("Returns the length of the conjugate.", this::conjugateAnswer);
        doc.says(NO_SUCH_SLOT, this::conjugateIndexes);
        doc.says("Throws `ArithmeticException` if the conjugate would have more than 200 letters",
                this::conjugateTooLong);
        doc.in("Promise 13");
        doc.says("`target`: the slot in which the commutator is stored, which can be that of u or"
                + " v", this::commutatorTargets);
        doc.says("Returns the length of the commutator.", this::commutatorAnswer);
        doc.says(NO_SUCH_SLOT, this::commutatorIndexes);
        doc.says("Throws `ArithmeticException` if the commutator would have more than 200 letters",
                this::commutatorTooLong);
        effects();
    }

    private void effects() {
        doc.in("Promise 14");
        doc.says("Returns the order of a word: how many times it must be performed, at least once,"
                + " until all tokens are where they were.", this::orders);
        doc.says(NO_SUCH_SLOT, this::orderIndexes);
        doc.in("Promise 15");
        doc.says("Returns true if it is odd, false if it is even.", this::parities);
        doc.says(NO_SUCH_SLOT, this::parityIndexes);
        doc.in("Promise 16");
        doc.says("Returns the length of the cycle of a position under a word: how many times the"
                + " word must be performed, at least once, until the token that was on the position"
                + " is on it again.", this::cycleLengths);
        doc.says("Throws `IndexOutOfBoundsException` if there is no such slot or position",
                this::cycleLengthIndexes);
        doc.in("Promise 17");
        doc.says("Returns true if the effects are the same.", this::sameEffects);
        doc.says(NO_SUCH_SLOT, this::isSameIndexes);
    }

    private void lengths() {
        PermutationPuzzle x = Lab.of(3, "(12)");
        check.due("empty", x.wordLength(3), 0);
        Lab.store(x, 3, "((a5)5)8");
        check.due("full", x.wordLength(3), 200);
        Lab.store(x, 3, "a");
        check.due("one letter", x.wordLength(3), 1);
        Lab.store(x, 3, "");
        check.due("empty again", x.wordLength(3), 0);
    }

    private void lengthIndexes() {
        refusals.noIndex(Refusals.NO_SLOTS, "wordLength", PermutationPuzzle::wordLength);
        check.due("wordLength(0)", Lab.busy().wordLength(0), 2);
        check.due("wordLength(3)", Lab.busy().wordLength(3), 4);
    }

    private void letterIndex() {
        PermutationPuzzle x = Lab.of(3, "(12)", "(123)");
        Lab.store(x, 0, "b(a'9)9(a9)9(a9)4b'");
        check.due("length", x.wordLength(0), 200);
        check.due("the first letter", x.letter(0, 0), 2);
        check.due("the second", x.letter(0, 1), 1);
        check.due("the last but one", x.letter(0, 198), 0);
        check.due("the last", x.letter(0, 199), 3);
        check.noIndex("one before the first", () -> x.letter(0, -1));
        check.noIndex("one after the last", () -> x.letter(0, 200));
    }

    private void letterAnswer() {
        PermutationPuzzle x = Lab.of(2, "", "", "", "", "");
        Lab.store(x, 0, "ae'");
        check.due("the least, a", x.letter(0, 0), 0);
        check.due("the greatest, the inverse of e", x.letter(0, 1), 9);
        x.invert(0, 0);
        check.due("e", x.letter(0, 0), 8);
        check.due("the inverse of a", x.letter(0, 1), 1);
    }

    private void letterIndexes() {
        refusals.noIndex(Refusals.NO_SLOTS, "letter", (x, slot) -> x.letter(slot, 0));
        int[] beyond = {-1, 4, 199, 200, Integer.MIN_VALUE, Integer.MAX_VALUE};
        refusals.noIndex(beyond, "letter of 4", (x, index) -> x.letter(3, index));
        int[] any = {0, -1, 1, 200};
        refusals.noIndex(any, "letter of an empty word", (x, index) -> x.letter(2, index));
        check.due("letter(0, 0)", Lab.busy().letter(0, 0), 4);
        check.due("letter(3, 3)", Lab.busy().letter(3, 3), 3);
        PermutationPuzzle x = Lab.busy();
        x.invert(3, 2);
        check.noIndex("letters of an earlier word are gone", () -> x.letter(3, 0));
    }

    private void invertInPlace() {
        PermutationPuzzle x = Lab.busy();
        check.due("invert(0, 0)", x.invert(0, 0), 2);
        check.due("letters", Lab.letters(x, 0), "AC");
        check.due("invert(3, 0)", x.invert(3, 0), 2);
        check.due("letters", Lab.letters(x, 3), "ca");
        check.due("the source stays", Lab.letters(x, 0), "AC");
    }

    private void invertAnswer() {
        PermutationPuzzle x = Lab.of(3, "(12)", "(123)");
        check.due("of an empty word", x.invert(0, 1), 0);
        check.due("in place", x.invert(1, 1), 0);
        Lab.store(x, 1, "a");
        check.due("of one letter", x.invert(0, 1), 1);
        Lab.store(x, 1, "b((a5)5)7(a6)4");
        check.due("of 200 letters", x.invert(1, 1), 200);
        check.due("the first was the last", x.letter(1, 0), 1);
        check.due("the last was the first", x.letter(1, 199), 3);
    }

    private void invertIndexes() {
        refusals.noIndex(Refusals.NO_SLOTS, "invert into", (x, target) -> x.invert(target, 0));
        refusals.noIndex(Refusals.NO_SLOTS, "invert of", (x, slot) -> x.invert(0, slot));
        refusals.noIndex(Refusals.NO_SLOTS, "invert in", (x, slot) -> x.invert(slot, slot));
        check.due("invert(0, 3)", Lab.busy().invert(0, 3), 4);
        check.due("invert(3, 0)", Lab.busy().invert(3, 0), 2);
    }

    /** The words in the slots 0 and 1 are ca and cc. */
    private void conjugateTargets() {
        for (int target = 0; target < 4; target++) {
            PermutationPuzzle x = Lab.busy();
            check.due("conjugate into " + target, x.conjugate(target, 0, 1), 6);
            checkWords(x, target, "CCcacc");
        }
        PermutationPuzzle x = Lab.busy();
        check.due("all three the same", x.conjugate(0, 0, 0), 6);
        checkWords(x, 0, "ACcaca");
    }

    /** All slots but the target hold what they held in the busy laboratory. */
    private void checkWords(PermutationPuzzle x, int target, String word) {
        String[] words = {"ca", "cc", "", "abAB"};
        words[target] = word;
        for (int slot = 0; slot < 4; slot++) {
            check.due("slot " + slot, Lab.letters(x, slot), words[slot]);
        }
    }

    private void conjugateAnswer() {
        PermutationPuzzle x = Lab.busy();
        check.due("of an empty word by itself", x.conjugate(2, 2, 2), 0);
        check.due("by an empty word", x.conjugate(2, 0, 2), 2);
        check.due("letters", Lab.letters(x, 2), "ca");
        PermutationPuzzle y = Lab.busy();
        check.due("of an empty word", y.conjugate(2, 2, 0), 4);
        check.due("letters", Lab.letters(y, 2), "ACca");
    }

    private void conjugateIndexes() {
        refusals.noIndex(Refusals.NO_SLOTS, "conjugate into", (x, slot) -> x.conjugate(slot, 0, 1));
        refusals.noIndex(Refusals.NO_SLOTS, "conjugate of", (x, slot) -> x.conjugate(0, slot, 1));
        refusals.noIndex(Refusals.NO_SLOTS, "conjugate by", (x, slot) -> x.conjugate(0, 1, slot));
        check.due("conjugate(3, 0, 3)", Lab.busy().conjugate(3, 0, 3), 10);
        check.due("conjugate(0, 3, 0)", Lab.busy().conjugate(0, 3, 0), 8);
    }

    private static PermutationPuzzle withWords(String u, String v) {
        PermutationPuzzle x = Lab.idle();
        Lab.store(x, 0, u);
        Lab.store(x, 1, v);
        return x;
    }

    /** The call is refused and leaves these words, and all else, as they were. */
    private void tooLong(String u, String v, String call, Consumer<PermutationPuzzle> action) {
        PermutationPuzzle x = withWords(u, v);
        check.badArithmetic(call, () -> action.accept(x));
        check.due("words after " + call, Lab.letters(x, 0) + ' ' + Lab.letters(x, 1),
                lettersOf(u) + ' ' + lettersOf(v));
        PermutationPuzzle y = withWords(u, v);
        check.badArithmetic(call, () -> action.accept(y));
        PermutationPuzzle twin = withWords(u, v);
        check.due("the rest after " + call, withoutWords(y), withoutWords(twin));
    }

    /** The long words cost too many calls to be read with the rest. */
    private static String withoutWords(PermutationPuzzle x) {
        x.invert(0, 2);
        x.invert(1, 2);
        return Lab.everything(x);
    }

    private static String lettersOf(String word) {
        PermutationPuzzle x = Lab.idle();
        Lab.store(x, 0, word);
        return Lab.letters(x, 0);
    }

    private void conjugateTooLong() {
        check.due("50 + 100 + 50", withWords("((a5)5)4", "(b5)8a'9b").conjugate(2, 0, 1), 200);
        check.due("0 + 200 + 0", withWords("((a5)5)8", "").conjugate(0, 0, 1), 200);
        check.due("100 + 0 + 100", withWords("", "((a5)5)4").conjugate(1, 0, 1), 200);
        for (int target = 0; target < 4; target++) {
            int slot = target;
            tooLong("((a5)5)4a", "(b5)8a'9b", "50 + 101 + 50", x -> x.conjugate(slot, 0, 1));
        }
        tooLong("", "((a5)5)4b", "101 + 0 + 101", x -> x.conjugate(2, 0, 1));
        tooLong("((a5)5)2(b8)2b", "", "3 times 67", x -> x.conjugate(0, 0, 0));
        check.due("3 times 66", withWords("((a5)5)2(b8)2", "").conjugate(0, 0, 0), 198);
    }

    private void commutatorTargets() {
        for (int target = 0; target < 4; target++) {
            PermutationPuzzle x = Lab.busy();
            check.due("commutator into " + target, x.commutator(target, 0, 1), 8);
            checkWords(x, target, "caccACCC");
        }
        PermutationPuzzle x = Lab.busy();
        check.due("all three the same", x.commutator(0, 0, 0), 8);
        checkWords(x, 0, "cacaACAC");
    }

    private void commutatorAnswer() {
        PermutationPuzzle x = Lab.busy();
        check.due("of empty words", x.commutator(2, 2, 2), 0);
        check.due("of an empty word and another", x.commutator(2, 2, 0), 4);
        check.due("letters", Lab.letters(x, 2), "caAC");
        PermutationPuzzle y = Lab.busy();
        check.due("of a word and an empty one", y.commutator(2, 0, 2), 4);
        check.due("letters", Lab.letters(y, 2), "caAC");
    }

    private void commutatorIndexes() {
        refusals.noIndex(Refusals.NO_SLOTS, "commutator into",
                (x, slot) -> x.commutator(slot, 0, 1));
        refusals.noIndex(Refusals.NO_SLOTS, "commutator of",
                (x, slot) -> x.commutator(0, slot, 1));
        refusals.noIndex(Refusals.NO_SLOTS, "commutator with",
                (x, slot) -> x.commutator(0, 1, slot));
        check.due("commutator(3, 0, 3)", Lab.busy().commutator(3, 0, 3), 12);
        check.due("commutator(0, 3, 0)", Lab.busy().commutator(0, 3, 0), 12);
    }

    private void commutatorTooLong() {
        check.due("2 * (75 + 25)", withWords("((a5)5)3", "(b5)5").commutator(2, 0, 1), 200);
        check.due("2 * (100 + 0)", withWords("((a5)5)4", "").commutator(0, 0, 1), 200);
        check.due("2 * (0 + 100)", withWords("", "((a5)5)4").commutator(1, 0, 1), 200);
        check.due("4 * 50", withWords("((a5)5)2", "").commutator(0, 0, 0), 200);
        for (int target = 0; target < 4; target++) {
            int slot = target;
            tooLong("((a5)5)3", "(b5)5b", "2 * (75 + 26)", x -> x.commutator(slot, 0, 1));
        }
        tooLong("((a5)5)4c", "", "2 * (101 + 0)", x -> x.commutator(2, 0, 1));
        tooLong("", "((a5)5)4c", "2 * (0 + 101)", x -> x.commutator(2, 0, 1));
        tooLong("((a5)5)2c", "", "4 * 51", x -> x.commutator(0, 0, 0));
    }

    private void orders() {
        PermutationPuzzle x = Lab.of(7, "(1234)(567)", "", "(1234567)", "(12)");
        String[] words = {"", "b", "aa'", "d", "c", "a", "(a6)2", "(a5)'"};
        int[] orders = {1, 1, 1, 2, 7, 12, 1, 12};
        for (int i = 0; i < words.length; i++) {
            Lab.store(x, 0, words[i]);
            check.due("order of " + words[i], x.order(0), orders[i]);
        }
        check.due("the arrangement stays", Lab.tokens(x), "1234567");
    }

    private void orderIndexes() {
        refusals.noIndex(Refusals.NO_SLOTS, "order", PermutationPuzzle::order);
        check.due("order(0)", Lab.busy().order(0), 5);
        check.due("order(3)", Lab.busy().order(3), 3);
    }

    private void parities() {
        PermutationPuzzle x = Lab.of(7, "(12)", "(17)", "(1234567)", "(123456)", "");
        String[] words = {"", "a", "b", "c", "d", "e", "ab", "abd", "a9", "a8"};
        boolean[] odd = {false, true, true, false, true, false, false, true, true, false};
        for (int i = 0; i < words.length; i++) {
            Lab.store(x, 0, words[i]);
            check.due("isOdd of " + words[i], x.isOdd(0), odd[i]);
        }
    }

    private void parityIndexes() {
        refusals.noIndex(Refusals.NO_SLOTS, "isOdd", PermutationPuzzle::isOdd);
        PermutationPuzzle x = Lab.idle();
        Lab.store(x, 0, "b");
        check.due("isOdd(0)", x.isOdd(0), true);
        check.due("isOdd(3)", x.isOdd(3), false);
    }

    private void cycleLengths() {
        PermutationPuzzle x = Lab.of(7, "(1234567)", "(17)");
        String[] words = {"", "a", "b", "a7", "bb"};
        int[] first = {1, 7, 2, 1, 1};
        int[] second = {1, 7, 1, 1, 1};
        for (int i = 0; i < words.length; i++) {
            Lab.store(x, 0, words[i]);
            check.due("position 1 under " + words[i], x.cycleLength(0, 1), first[i]);
            check.due("position 7 under " + words[i], x.cycleLength(0, 7), first[i]);
            check.due("position 2 under " + words[i], x.cycleLength(0, 2), second[i]);
        }
    }

    private void cycleLengthIndexes() {
        refusals.noIndex(Refusals.NO_SLOTS, "cycleLength", (x, slot) -> x.cycleLength(slot, 1));
        refusals.noIndex(Refusals.NO_POSITIONS, "cycleLength",
                (x, position) -> x.cycleLength(0, position));
        check.due("cycleLength(0, 1)", Lab.busy().cycleLength(0, 1), 5);
        check.due("cycleLength(3, 5)", Lab.busy().cycleLength(3, 5), 3);
        check.due("cycleLength(3, 4)", Lab.busy().cycleLength(3, 4), 1);
        PermutationPuzzle x = Lab.of(2, "(12)");
        check.due("the last of 2", x.cycleLength(3, 2), 1);
        check.noIndex("one more", () -> x.cycleLength(3, 3));
    }

    private void sameEffects() {
        PermutationPuzzle x = Lab.of(7, "(1234567)", "");
        check.due("empty words", x.isSame(0, 3), true);
        check.due("a word and itself", x.isSame(3, 3), true);
        Lab.store(x, 0, "a7");
        check.due("all the way round", x.isSame(0, 3), true);
        Lab.store(x, 0, "a6");
        check.due("one less", x.isSame(0, 3), false);
        Lab.store(x, 3, "a'");
        check.due("and one back", x.isSame(0, 3), true);
        Lab.store(x, 3, "a'b");
        check.due("and a move that moves nothing", x.isSame(3, 0), true);
    }

    private void isSameIndexes() {
        refusals.noIndex(Refusals.NO_SLOTS, "isSame", (x, slot) -> x.isSame(slot, 0));
        refusals.noIndex(Refusals.NO_SLOTS, "isSame", (x, slot) -> x.isSame(0, slot));
        refusals.noIndex(Refusals.NO_SLOTS, "isSame", (x, slot) -> x.isSame(slot, slot));
        check.due("isSame(0, 3)", Lab.busy().isSame(0, 3), false);
        check.due("isSame(3, 0)", Lab.busy().isSame(3, 0), false);
        check.due("isSame(3, 3)", Lab.busy().isSame(3, 3), true);
    }
}
