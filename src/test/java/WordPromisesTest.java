/** Promises 9 to 17: stored words, their inverses and commutators, orders, parities and cycles. */
public final class WordPromisesTest {
    private static final Check CHECK = new Check();
    private static final int[] NO_SLOTS = {-1, 4, Integer.MIN_VALUE, Integer.MAX_VALUE};

    public static void main(String[] args) {
        promise9();
        promise10();
        promise11();
        promise12();
        promise12Failures();
        promise13();
        promise13Failures();
        promise14();
        promise15();
        promise16();
        promise17();
        wordsFollowTheMoves();
        CHECK.finish();
    }

    private static void promise9() {
        PermutationPuzzle x = Lab.of(3, "(12)");
        Lab.store(x, 0, "a3");
        Lab.store(x, 3, "((a5)5)8");
        CHECK.due("wordLength(0)", x.wordLength(0), 3);
        CHECK.due("wordLength(1)", x.wordLength(1), 0);
        CHECK.due("wordLength(3)", x.wordLength(3), 200);
        Lab.store(x, 3, "");
        CHECK.due("a shorter word replaces a longer one", x.wordLength(3), 0);
        for (int wrong : NO_SLOTS) {
            CHECK.noIndex("wordLength(" + wrong + ")", () -> x.wordLength(wrong));
        }
    }

    private static void promise10() {
        PermutationPuzzle x = Lab.of(3, "(12)", "(23)", "", "(123)", "(13)");
        Lab.store(x, 2, "aa'bb'cc'dd'ee'");
        for (int i = 0; i < 10; i++) {
            CHECK.due("letter(2, " + i + ")", x.letter(2, i), i);
        }
        for (int wrong : new int[] {-1, 10, 199, 200, Integer.MIN_VALUE, Integer.MAX_VALUE}) {
            CHECK.noIndex("letter(2, " + wrong + ")", () -> x.letter(2, wrong));
        }
        CHECK.noIndex("letter of an empty word", () -> x.letter(1, 0));
        Lab.store(x, 0, "a");
        for (int wrong : NO_SLOTS) {
            CHECK.noIndex("letter(" + wrong + ", 0)", () -> x.letter(wrong, 0));
        }
        Lab.store(x, 2, "b");
        CHECK.noIndex("letters of an earlier word are gone", () -> x.letter(2, 1));
    }

    private static void promise11() {
        PermutationPuzzle x = Lab.of(3, "(12)", "(123)");
        Lab.store(x, 0, "ab'a2");
        CHECK.due("invert(1, 0)", x.invert(1, 0), 4);
        CHECK.due("inverse", Lab.letters(x, 1), "AAbA");
        CHECK.due("source", Lab.letters(x, 0), "aBaa");
        CHECK.due("invert(0, 0)", x.invert(0, 0), 4);
        CHECK.due("in the same slot", Lab.letters(x, 0), "AAbA");
        CHECK.due("of an empty word", x.invert(0, 3), 0);
        CHECK.due("is empty", x.wordLength(0), 0);
        Lab.store(x, 2, "((a5)5)8");
        CHECK.due("of 200 letters", x.invert(2, 2), 200);
        CHECK.due("the last of them", x.letter(2, 199), 1);
        for (int wrong : NO_SLOTS) {
            CHECK.noIndex("invert(" + wrong + ", 0)", () -> x.invert(wrong, 0));
            CHECK.noIndex("invert(0, " + wrong + ")", () -> x.invert(0, wrong));
        }
        CHECK.due("the words stay", Lab.letters(x, 1), "AAbA");
    }

    private static PermutationPuzzle twoWords(String u, String v) {
        PermutationPuzzle x = Lab.of(5, "(12)", "(123)", "(345)");
        Lab.store(x, 0, u);
        Lab.store(x, 1, v);
        return x;
    }

    private static void conjugateInto(int target) {
        PermutationPuzzle x = twoWords("ab", "bc'");
        CHECK.due("conjugate into " + target, x.conjugate(target, 0, 1), 6);
        CHECK.due("its letters", Lab.letters(x, target), "cBabbC");
        CHECK.due("u", Lab.letters(x, 0), target == 0 ? "cBabbC" : "ab");
        CHECK.due("v", Lab.letters(x, 1), target == 1 ? "cBabbC" : "bC");
    }

    private static void promise12() {
        conjugateInto(0);
        conjugateInto(1);
        conjugateInto(2);
        PermutationPuzzle x = twoWords("ab", "c");
        CHECK.due("a word by itself", x.conjugate(0, 0, 0), 6);
        CHECK.due("its letters", Lab.letters(x, 0), "BAabab");
        CHECK.due("by an empty word", x.conjugate(3, 1, 2), 1);
        CHECK.due("its letters", Lab.letters(x, 3), "c");
        CHECK.due("of an empty word", x.conjugate(3, 2, 1), 2);
        CHECK.due("its letters", Lab.letters(x, 3), "Cc");
    }

    private static void promise12Failures() {
        PermutationPuzzle x = twoWords("((a5)5)4", "(b5)8a'9b");
        CHECK.due("200 letters", x.conjugate(2, 0, 1), 200);
        x.invert(2, 1);
        Lab.store(x, 0, "((a5)5)4a");
        CHECK.badArithmetic("201 letters", () -> x.conjugate(2, 0, 1));
        CHECK.due("the target stays", x.wordLength(2), 50);
        CHECK.due("and its letters", x.letter(2, 0), 3);
        CHECK.badArithmetic("into u", () -> x.conjugate(0, 0, 1));
        CHECK.due("u stays", x.wordLength(0), 101);
        for (int wrong : NO_SLOTS) {
            CHECK.noIndex("the slots are checked first", () -> x.conjugate(wrong, 0, 1));
            CHECK.noIndex("the slots are checked first", () -> x.conjugate(2, wrong, 0));
            CHECK.noIndex("the slots are checked first", () -> x.conjugate(2, 0, wrong));
        }
    }

    private static void commutatorInto(int target) {
        PermutationPuzzle x = twoWords("ab", "bc'");
        CHECK.due("commutator into " + target, x.commutator(target, 0, 1), 8);
        CHECK.due("its letters", Lab.letters(x, target), "abbCBAcB");
        CHECK.due("u", Lab.letters(x, 0), target == 0 ? "abbCBAcB" : "ab");
        CHECK.due("v", Lab.letters(x, 1), target == 1 ? "abbCBAcB" : "bC");
    }

    private static void promise13() {
        commutatorInto(0);
        commutatorInto(1);
        commutatorInto(2);
        PermutationPuzzle x = twoWords("ab", "c");
        CHECK.due("of a word with itself", x.commutator(0, 0, 0), 8);
        CHECK.due("its letters", Lab.letters(x, 0), "ababBABA");
        CHECK.due("with an empty word", x.commutator(3, 1, 2), 2);
        CHECK.due("its letters", Lab.letters(x, 3), "cC");
        CHECK.due("of empty words", x.commutator(3, 2, 2), 0);
    }

    private static void promise13Failures() {
        PermutationPuzzle x = twoWords("((a5)5)3", "(b5)5");
        CHECK.due("200 letters", x.commutator(2, 0, 1), 200);
        Lab.store(x, 2, "c");
        Lab.store(x, 1, "(b5)5b");
        CHECK.badArithmetic("202 letters", () -> x.commutator(2, 0, 1));
        CHECK.due("the target stays", Lab.letters(x, 2), "c");
        CHECK.badArithmetic("into v", () -> x.commutator(1, 0, 1));
        CHECK.due("v stays", x.wordLength(1), 26);
        for (int wrong : NO_SLOTS) {
            CHECK.noIndex("the slots are checked first", () -> x.commutator(wrong, 0, 1));
            CHECK.noIndex("the slots are checked first", () -> x.commutator(2, wrong, 0));
            CHECK.noIndex("the slots are checked first", () -> x.commutator(2, 0, wrong));
        }
    }

    private static void promise14() {
        PermutationPuzzle x = Lab.of(7, "(1234)(567)", "(12345)(67)", "", "(1234567)", "(123)(456)");
        String[] words = {"", "a", "a'", "b", "c", "d", "e", "a3", "a4", "a6", "aa'", "b5"};
        int[] orders = {1, 12, 12, 10, 1, 7, 3, 4, 3, 2, 1, 2};
        for (int i = 0; i < words.length; i++) {
            Lab.store(x, 0, words[i]);
            CHECK.due("order of " + words[i], x.order(0), orders[i]);
        }
        for (int wrong : NO_SLOTS) {
            CHECK.noIndex("order(" + wrong + ")", () -> x.order(wrong));
        }
        CHECK.due("the arrangement stays", Lab.tokens(x), "1234567");
    }

    private static void promise15() {
        PermutationPuzzle x = Lab.of(7, "(12)", "(123)", "(1234)(56)", "(1357)", "(16)(25)(34)");
        String[] words = {"", "a", "a2", "b", "c", "d", "e", "ad", "ab", "e'", "d3", "<a,d>"};
        boolean[] odd = {false, true, false, false, false, true, true, false, true, true, true,
            false};
        for (int i = 0; i < words.length; i++) {
            Lab.store(x, 1, words[i]);
            CHECK.due("isOdd of " + words[i], x.isOdd(1), odd[i]);
        }
        for (int wrong : NO_SLOTS) {
            CHECK.noIndex("isOdd(" + wrong + ")", () -> x.isOdd(wrong));
        }
    }

    private static void promise16() {
        PermutationPuzzle x = Lab.of(6, "(123)(45)", "(16)");
        Lab.store(x, 0, "a");
        int[] lengths = {3, 3, 3, 2, 2, 1};
        for (int i = 1; i <= 6; i++) {
            CHECK.due("cycleLength(0, " + i + ")", x.cycleLength(0, i), lengths[i - 1]);
            CHECK.due("cycleLength(1, " + i + ")", x.cycleLength(1, i), 1);
        }
        Lab.store(x, 2, "ab");
        CHECK.due("cycleLength(2, 6)", x.cycleLength(2, 6), 4);
        CHECK.due("cycleLength(2, 4)", x.cycleLength(2, 4), 2);
        Lab.define(x, 2, "(163524)");
        Lab.store(x, 3, "c");
        CHECK.due("cycleLength(3, 5)", x.cycleLength(3, 5), 6);
        for (int wrong : NO_SLOTS) {
            CHECK.noIndex("cycleLength(" + wrong + ", 1)", () -> x.cycleLength(wrong, 1));
        }
        for (int wrong : new int[] {0, 7, -1, Integer.MIN_VALUE, Integer.MAX_VALUE}) {
            CHECK.noIndex("cycleLength(0, " + wrong + ")", () -> x.cycleLength(0, wrong));
        }
    }

    private static void promise17() {
        PermutationPuzzle x = Lab.of(4, "(1234)", "(12)", "(4321)");
        String[] one = {"", "a2", "a", "ab", "b", "<a,b>", "a'", "a4"};
        String[] other = {"a4", "a'2", "a'", "ba", "b'", "(ab)(a'b')", "c", ""};
        boolean[] same = {true, true, false, false, true, true, true, true};
        for (int i = 0; i < one.length; i++) {
            Lab.store(x, 0, one[i]);
            Lab.store(x, 3, other[i]);
            CHECK.due(one[i] + " and " + other[i], x.isSame(0, 3), same[i]);
            CHECK.due(other[i] + " and " + one[i], x.isSame(3, 0), same[i]);
            CHECK.due("a word and itself", x.isSame(3, 3), true);
        }
        for (int wrong : NO_SLOTS) {
            CHECK.noIndex("isSame(" + wrong + ", 0)", () -> x.isSame(wrong, 0));
            CHECK.noIndex("isSame(0, " + wrong + ")", () -> x.isSame(0, wrong));
        }
    }

    /** Names stand for the moves as they are defined when the word is used. */
    private static void wordsFollowTheMoves() {
        PermutationPuzzle x = Lab.of(5, "(12)");
        Lab.store(x, 0, "a");
        CHECK.due("order", x.order(0), 2);
        CHECK.due("isOdd", x.isOdd(0), true);
        CHECK.due("reachable", x.reachable(), 2);
        Lab.define(x, 0, "(12345)");
        CHECK.due("order", x.order(0), 5);
        CHECK.due("isOdd", x.isOdd(0), false);
        CHECK.due("cycleLength", x.cycleLength(0, 5), 5);
        CHECK.due("reachable", x.reachable(), 5);
        CHECK.due("letters", Lab.letters(x, 0), "a");
        x.perform(0, 1);
        CHECK.due("tokens", Lab.tokens(x), "51234");
    }
}
