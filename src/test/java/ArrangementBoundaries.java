import java.util.NoSuchElementException;

/** The boundaries that promises 18 to 22 name. */
final class ArrangementBoundaries extends Boundaries {
    private static final String NO_SUCH_SLOT =
            "Throws `IndexOutOfBoundsException` if there is no such slot";
    private static final String NO_SUCH_POSITION =
            "Throws `IndexOutOfBoundsException` if there is no such position";
    private static final String NOT_REACHABLE =
            "Throws `NoSuchElementException` if the arrangement is not reachable";

    ArrangementBoundaries(Sentences doc, Check check) {
        super(doc, check);
    }

    @Override
    void test() {
        doc.in("Promise 18");
        doc.says("`times`: how many times, -100 to 100; a negative number performs the inverse",
                this::performTimes);
        doc.says("Returns the number of positions on which there is another token than before.",
                this::performAnswer);
        doc.says(NO_SUCH_SLOT, this::performIndexes);
        doc.says("Throws `IllegalArgumentException` if times is out of range",
                this::performTooOften);
        doc.in("Promise 19");
        doc.says("`other`: a position, which can be the same", this::exchangeWithItself);
        doc.says("Returns the token that is on the first position then.", this::exchangeAnswer);
        doc.says(NO_SUCH_POSITION, this::exchangeIndexes);
        doc.in("Promise 20");
        doc.says(NO_SUCH_POSITION, this::tokenIndexes);
        doc.in("Promise 21");
        doc.says("Returns the depth of the present arrangement.", this::depths);
        doc.says(NOT_REACHABLE, this::depthOfUnreachable);
        doc.in("Promise 22");
        doc.says("Stores the first shortest solution: of all shortest words that lead from the"
                + " present arrangement to the solved one, the one that is first if words are"
                + " compared at the first letter at which they differ.", this::firstSolution);
        doc.says("The arrangement does not change.", this::solveKeepsTheArrangement);
        doc.says("Returns the length of the word.", this::solveAnswer);
        doc.says(NO_SUCH_SLOT, this::solveIndexes);
        doc.says(NOT_REACHABLE, this::solveUnreachable);
    }

    private void performed(String word, int times, String tokens) {
        PermutationPuzzle x = Lab.of(7, "(1234567)", "(12)");
        Lab.store(x, 3, word);
        x.perform(3, times);
        check.due("tokens after " + word + " " + times + " times", Lab.tokens(x), tokens);
    }

    private void performTimes() {
        performed("a", 0, "1234567");
        performed("a", 1, "7123456");
        performed("a", -1, "2345671");
        performed("a", 6, "2345671");
        performed("a", 7, "1234567");
        performed("a", 99, "7123456");
        performed("a", 100, "6712345");
        performed("a", -99, "2345671");
        performed("a", -100, "3456712");
        performed("b", 99, "2134567");
        performed("b", -100, "1234567");
        performed("ab", 1, "1723456");
        performed("ab", -1, "1345672");
        performed("", 100, "1234567");
        performed("", -100, "1234567");
        PermutationPuzzle x = Lab.of(7, "(1234567)");
        Lab.store(x, 0, "a");
        check.badArgument("101 times", () -> x.perform(0, 101));
        check.badArgument("-101 times", () -> x.perform(0, -101));
    }

    private void performAnswer() {
        PermutationPuzzle x = Lab.of(7, "(1234567)", "(17)", "");
        Lab.store(x, 0, "a");
        Lab.store(x, 1, "b");
        Lab.store(x, 2, "c");
        check.due("all", x.perform(0, 1), 7);
        check.due("the fewest that can be", x.perform(1, 1), 2);
        check.due("none by a move that moves nothing", x.perform(2, 100), 0);
        check.due("none by an empty word", x.perform(3, 100), 0);
        check.due("none in 0 times", x.perform(0, 0), 0);
        check.due("none all the way round", x.perform(0, 7), 0);
        check.due("none back and forth", x.perform(1, -100), 0);
        check.due("back, compared with before", x.perform(1, -1), 2);
        check.due("back to the solved arrangement", x.perform(0, -1), 7);
        check.due("tokens", Lab.tokens(x), "1234567");
    }

    private void performIndexes() {
        for (int times : new int[] {0, 1, 101}) {
            refusals.noIndex(Refusals.NO_SLOTS, "perform", (x, slot) -> x.perform(slot, times));
        }
        check.due("perform(0, 1)", Lab.busy().perform(0, 1), 5);
        check.due("perform(3, 1)", Lab.busy().perform(3, 1), 3);
    }

    private void performTooOften() {
        int[] wrong = {101, -101, 1000, Integer.MIN_VALUE, Integer.MIN_VALUE + 1,
            Integer.MAX_VALUE};
        refusals.each(wrong, IllegalArgumentException.class, "perform",
                (x, times) -> x.perform(0, times));
        refusals.each(wrong, IllegalArgumentException.class, "perform of an empty word",
                (x, times) -> x.perform(2, times));
        check.due("100 times a word of order 3", Lab.busy().perform(3, 100), 3);
        check.due("-100 times", Lab.busy().perform(3, -100), 3);
    }

    private void exchangeWithItself() {
        for (int position = 1; position <= 5; position++) {
            PermutationPuzzle x = Lab.busy();
            int token = x.token(position);
            check.due("its token", x.exchange(position, position), token);
            check.due("nothing changes", Lab.everything(x), Lab.everything(Lab.busy()));
        }
        PermutationPuzzle y = Lab.of(5);
        y.exchange(1, 5);
        check.due("two positions", Lab.tokens(y), "52341");
    }

    private void exchangeAnswer() {
        PermutationPuzzle x = Lab.of(7);
        check.due("exchange(1, 7)", x.exchange(1, 7), 7);
        check.due("exchange(7, 2)", x.exchange(7, 2), 2);
        check.due("exchange(7, 7)", x.exchange(7, 7), 2);
        check.due("tokens", Lab.tokens(x), "7134562");
    }

    private void exchangeIndexes() {
        refusals.noIndex(Refusals.NO_POSITIONS, "exchange of", (x, one) -> x.exchange(one, 1));
        refusals.noIndex(Refusals.NO_POSITIONS, "exchange with", (x, other) -> x.exchange(1, other));
        refusals.noIndex(Refusals.NO_POSITIONS, "exchange in", (x, one) -> x.exchange(one, one));
        for (int n = 2; n <= 7; n++) {
            PermutationPuzzle x = Lab.of(n);
            int next = n + 1;
            check.due("the first and the last", x.exchange(1, n), n);
            check.due("the last and the first", x.exchange(n, 1), n);
            check.noIndex("one more", () -> x.exchange(1, next));
            check.noIndex("one less", () -> x.exchange(0, 1));
        }
    }

    private void tokenIndexes() {
        refusals.noIndex(Refusals.NO_POSITIONS, "token", PermutationPuzzle::token);
        for (int n = 2; n <= 7; n++) {
            PermutationPuzzle x = Lab.of(n);
            int next = n + 1;
            check.due("the first", x.token(1), 1);
            check.due("the last", x.token(n), n);
            check.noIndex("one more", () -> x.token(next));
            check.noIndex("one less", () -> x.token(0));
        }
    }

    private void depths() {
        PermutationPuzzle x = Lab.deep();
        check.due("the solved arrangement", x.depth(), 0);
        Lab.arrange(x, "2143567");
        check.due("one letter away", x.depth(), 1);
        Lab.arrange(x, "1234576");
        check.due("the deepest", x.depth(), 24);
        check.due("is as deep as any", x.greatestDepth(), 24);
    }

    private void depthOfUnreachable() {
        refusals.leaves(Lab.everything(Lab.stuck()), NoSuchElementException.class, Lab.stuck(),
                "depth", PermutationPuzzle::depth);
        PermutationPuzzle x = Lab.of(7);
        check.due("solved without moves", x.depth(), 0);
        x.exchange(6, 7);
        check.noElement("another without moves", x::depth);
        PermutationPuzzle y = Lab.of(7, "(123)");
        Lab.arrange(y, "3124567");
        check.due("even", y.depth(), 1);
        y.exchange(1, 2);
        check.noElement("odd", y::depth);
        Lab.arrange(y, "2314567");
        check.due("even", y.depth(), 1);
        y.exchange(6, 7);
        check.noElement("odd elsewhere", y::depth);
    }

    private void solution(PermutationPuzzle x, String tokens, String word) {
        Lab.arrange(x, tokens);
        check.due("length of the solution of " + tokens, x.solve(3), word.length());
        check.due("solution of " + tokens, Lab.letters(x, 3), word);
        x.perform(3, 1);
        check.due("depth after it", x.depth(), 0);
    }

    private void firstSolution() {
        solution(Lab.of(3), "123", "");
        PermutationPuzzle x = Lab.of(4, "(1234)");
        solution(x, "1234", "");
        solution(x, "4123", "A");
        solution(x, "2341", "a");
        solution(x, "3412", "aa");
        solution(Lab.of(4, "(12)", "(34)"), "2143", "ab");
        solution(Lab.of(4, "", "(12)", "(12)"), "2134", "b");
        solution(Lab.of(4, "", "", "", "", "(1234)"), "4123", "E");
        solution(Lab.of(4, "", "", "", "(1432)", "(1234)"), "4123", "d");
        solution(Lab.deep(), "1234576", "abacbacbabcbcbabacbacbdc");
        solution(Lab.deep(), "1243567", "abacbabcbcbabacbacbadcbc");
    }

    private void solveKeepsTheArrangement() {
        PermutationPuzzle x = Lab.busy();
        String tokens = Lab.tokens(x);
        x.solve(2);
        check.due("tokens", Lab.tokens(x), tokens);
        x.perform(2, 1);
        check.due("tokens when it is performed", Lab.tokens(x), "12345");
    }

    private void solveAnswer() {
        PermutationPuzzle x = Lab.of(6, "(12)", "(23)", "(34)", "(45)", "(56)");
        check.due("nothing to solve", x.solve(0), 0);
        Lab.arrange(x, "123465");
        check.due("one letter", x.solve(0), 1);
        check.due("is kept", x.wordLength(0), 1);
        Lab.arrange(x, "654321");
        check.due("the most", x.solve(0), 15);
        check.due("is kept", x.wordLength(0), 15);
        Lab.arrange(x, "123456");
        check.due("nothing to solve", x.solve(0), 0);
        check.due("an empty word replaces it", x.wordLength(0), 0);
    }

    private void solveIndexes() {
        refusals.noIndex(Refusals.NO_SLOTS, "solve", PermutationPuzzle::solve);
        for (int slot : new int[] {0, 3}) {
            PermutationPuzzle x = Lab.busy();
            check.due("solve(" + slot + ")", x.solve(slot), x.depth());
        }
        for (int slot : Refusals.NO_SLOTS) {
            check.noIndex("before what is not reachable", () -> Lab.stuck().solve(slot));
        }
    }

    private void solveUnreachable() {
        for (int slot = 0; slot < 4; slot++) {
            int number = slot;
            refusals.leaves(Lab.everything(Lab.stuck()), NoSuchElementException.class, Lab.stuck(),
                    "solve", x -> x.solve(number));
        }
        PermutationPuzzle x = Lab.of(2);
        check.due("solved without moves", x.solve(0), 0);
        x.exchange(1, 2);
        check.noElement("another without moves", () -> x.solve(0));
        Lab.define(x, 4, "(12)");
        check.due("with one", x.solve(0), 1);
        check.due("letter", x.letter(0, 0), 8);
    }
}
