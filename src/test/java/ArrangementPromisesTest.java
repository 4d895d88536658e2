/** Promises 18 to 22: performing words, exchanging tokens, depths and solutions. */
public final class ArrangementPromisesTest {
    private static final Check CHECK = new Check();
    private static final int[] NO_SLOTS = {-1, 4, Integer.MIN_VALUE, Integer.MAX_VALUE};

    public static void main(String[] args) {
        promise18();
        promise18Failures();
        promise19();
        promise20();
        promise21();
        promise22();
        promise22Ties();
        promise22Failures();
        CHECK.finish();
    }

    private static void performed(String word, int times, String before, String after, int want) {
        PermutationPuzzle x = Lab.of(5, "(12345)", "(12)", "(135)");
        Lab.store(x, 2, word);
        Lab.arrange(x, before);
        String call = word + " " + times + " times on " + before;
        CHECK.due(call, x.perform(2, times), want);
        CHECK.due("tokens after " + call, Lab.tokens(x), after);
        CHECK.due("word after " + call, x.wordLength(2), word.replace("'", "").length());
    }

    private static void promise18() {
        performed("a", 1, "12345", "51234", 5);
        performed("a", -1, "12345", "23451", 5);
        performed("a", 2, "12345", "45123", 5);
        performed("a", 0, "21345", "21345", 0);
        performed("a", 100, "21345", "21345", 0);
        performed("a", -100, "21345", "21345", 0);
        performed("a", 99, "12345", "23451", 5);
        performed("a", -99, "12345", "51234", 5);
        performed("b", 1, "12345", "21345", 2);
        performed("b", 7, "34512", "43512", 2);
        performed("b", -100, "34512", "34512", 0);
        performed("c", 1, "12345", "52143", 3);
        performed("c", 1, "32541", "12345", 3);
        performed("c", -1, "12345", "32541", 3);
        performed("ab", 1, "12345", "15234", 4);
        performed("ba", 1, "12345", "52134", 4);
        performed("ab'", -1, "15234", "12345", 4);
        performed("", 100, "15234", "15234", 0);
        // The number compares with the arrangement before the call, not with the solved one.
        performed("a", 1, "23451", "12345", 5);
        performed("aa'", 3, "23451", "23451", 0);
    }

    private static void promise18Failures() {
        PermutationPuzzle x = Lab.of(3, "(123)");
        Lab.store(x, 0, "a");
        for (int wrong : new int[] {-101, 101, Integer.MIN_VALUE, Integer.MAX_VALUE}) {
            CHECK.badArgument("perform(0, " + wrong + ")", () -> x.perform(0, wrong));
            CHECK.noIndex("the slot is checked first", () -> x.perform(4, wrong));
        }
        for (int wrong : NO_SLOTS) {
            CHECK.noIndex("perform(" + wrong + ", 1)", () -> x.perform(wrong, 1));
        }
        CHECK.due("the arrangement stays", Lab.tokens(x), "123");
    }

    private static void promise19() {
        PermutationPuzzle x = Lab.of(4);
        CHECK.due("exchange(1, 4)", x.exchange(1, 4), 4);
        CHECK.due("tokens", Lab.tokens(x), "4231");
        CHECK.due("exchange(2, 1)", x.exchange(2, 1), 4);
        CHECK.due("tokens", Lab.tokens(x), "2431");
        CHECK.due("exchange(3, 3)", x.exchange(3, 3), 3);
        CHECK.due("exchange(2, 2)", x.exchange(2, 2), 4);
        CHECK.due("tokens", Lab.tokens(x), "2431");
        for (int wrong : new int[] {0, 5, -1, Integer.MIN_VALUE, Integer.MAX_VALUE}) {
            CHECK.noIndex("exchange(" + wrong + ", 1)", () -> x.exchange(wrong, 1));
            CHECK.noIndex("exchange(1, " + wrong + ")", () -> x.exchange(1, wrong));
        }
        CHECK.due("tokens", Lab.tokens(x), "2431");
    }

    private static void promise20() {
        PermutationPuzzle x = Lab.of(7);
        Lab.arrange(x, "7145263");
        int[] tokens = {7, 1, 4, 5, 2, 6, 3};
        for (int i = 1; i <= 7; i++) {
            CHECK.due("token(" + i + ")", x.token(i), tokens[i - 1]);
        }
        for (int wrong : new int[] {0, 8, -1, Integer.MIN_VALUE, Integer.MAX_VALUE}) {
            CHECK.noIndex("token(" + wrong + ")", () -> x.token(wrong));
        }
        x.reset(2);
        CHECK.noIndex("token(3) of two", () -> x.token(3));
    }

    private static void depthOf(PermutationPuzzle x, String tokens, int want) {
        Lab.arrange(x, tokens);
        CHECK.due("depth of " + tokens, x.depth(), want);
        CHECK.due("tokens", Lab.tokens(x), tokens);
    }

    private static void promise21() {
        PermutationPuzzle x = Lab.of(4, "(1234)");
        depthOf(x, "1234", 0);
        depthOf(x, "4123", 1);
        depthOf(x, "2341", 1);
        depthOf(x, "3412", 2);
        Lab.arrange(x, "2134");
        CHECK.noElement("depth()", x::depth);
        Lab.define(x, 1, "(12)");
        depthOf(x, "2134", 1);
        depthOf(x, "4321", 4);
        Lab.define(x, 1, "");
        CHECK.noElement("the table follows the moves", x::depth);
        Lab.define(x, 4, "(14)(23)");
        CHECK.due("the table follows the moves", x.depth(), 1);

        PermutationPuzzle y = Lab.of(2);
        CHECK.due("no moves", y.depth(), 0);
        y.exchange(1, 2);
        CHECK.noElement("no moves", y::depth);
    }

    private static void solution(PermutationPuzzle x, String tokens, String want) {
        Lab.arrange(x, tokens);
        CHECK.due("solve " + tokens, x.solve(1), want.length());
        CHECK.due("solution of " + tokens, Lab.letters(x, 1), want);
        CHECK.due("the arrangement stays", Lab.tokens(x), tokens);
        x.perform(1, 1);
        CHECK.due("the word solves it", x.depth(), 0);
    }

    private static void promise22() {
        PermutationPuzzle x = Lab.of(4, "(1234)");
        solution(x, "1234", "");
        solution(x, "4123", "A");
        solution(x, "2341", "a");
        PermutationPuzzle y = Lab.of(3, "(123)", "(12)");
        // Here ba and aab lead there, too.
        solution(y, "321", "Ab");
        solution(y, "132", "ab");
        solution(y, "213", "b");
        PermutationPuzzle z = Lab.of(3);
        Lab.define(z, 1, "(123)");
        Lab.define(z, 3, "(12)");
        solution(z, "312", "B");
        solution(z, "213", "d");
    }

    private static void promise22Ties() {
        PermutationPuzzle x = Lab.of(4, "(1234)");
        solution(x, "3412", "aa");
        PermutationPuzzle y = Lab.of(4, "(12)", "(34)");
        solution(y, "2143", "ab");
        PermutationPuzzle z = Lab.of(4, "", "(13)", "(13)", "(24)");
        solution(z, "3412", "bd");
        PermutationPuzzle w = Lab.of(4, "(34)", "(1234)");
        solution(w, "3412", "bb");
        PermutationPuzzle v = Lab.of(4, "(1432)", "(1234)");
        solution(v, "3412", "aa");
        solution(v, "4123", "a");
        solution(v, "2341", "A");
    }

    private static void promise22Failures() {
        PermutationPuzzle x = Lab.of(3, "(12)");
        Lab.store(x, 0, "a3");
        x.exchange(1, 3);
        CHECK.noElement("solve(0)", () -> x.solve(0));
        for (int wrong : NO_SLOTS) {
            CHECK.noIndex("the slot is checked first", () -> x.solve(wrong));
        }
        CHECK.due("the word stays", Lab.letters(x, 0), "aaa");
        CHECK.due("the arrangement stays", Lab.tokens(x), "321");
        x.exchange(1, 3);
        CHECK.due("an empty solution replaces it", x.solve(0), 0);
        CHECK.due("wordLength", x.wordLength(0), 0);
    }
}
