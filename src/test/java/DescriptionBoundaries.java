/** The boundaries that the sections 'What it is' and 'Description' name, but those of texts. */
final class DescriptionBoundaries extends Boundaries {
    DescriptionBoundaries(Sentences doc, Check check) {
        super(doc, check);
    }

    @Override
    void test() {
        doc.in("What it is");
        doc.says("An object is used for at most 512 calls after it has been made", this::calls);
        doc.in("Description");
        puzzles();
        wordsAndDepths();
        doc.says("There are 2 rows of numbers, numbered 0 and 1: row 0 holds floats, row 1 doubles.",
                this::rows);
        doc.says("Both have 24 elements, which are 0 at first.", this::elements);
        doc.says("A call that throws an exception leaves the state unchanged, unless its"
                + " description says otherwise.", this::refusedCalls);
        doc.says("If a method can throw several exceptions, they are checked in the order in which"
                + " they are listed.", this::orderOfExceptions);
        doc.says("A new laboratory has 3 positions, the solved arrangement and no moves.",
                this::newLaboratory);
    }

    private void puzzles() {
        doc.says("A puzzle has n positions, 2 to 7, numbered from 1, and n tokens, numbered from"
                + " 1.", this::positionsAndTokens);
        doc.says("In the solved arrangement token i is on position i.", this::solvedArrangement);
        doc.says("There are up to 5 moves, named a to e, which are undefined at first.",
                this::moves);
        doc.says("in the cycle (135) the token on position 1 goes to position 3, that on 3 to 5,"
                + " and that on 5 to 1.", this::endOfACycle);
        doc.says("Tokens on positions that occur in no cycle stay.", this::positionsInNoCycle);
        doc.says("The inverse of a move takes all tokens back.", this::inverseOfAMove);
        doc.says("Letters are ordered as follows: a, the inverse of a, b, the inverse of b, and so"
                + " on.", this::letters);
    }

    private void wordsAndDepths() {
        doc.says("There are 4 slots for words, numbered 0 to 3, which hold empty words at first.",
                this::slots);
        doc.says("A word that is stored has at most 200 letters.", this::longestWords);
        doc.says("Names in it stand for the moves as they are defined when the word is used.",
                this::namesInWords);
        doc.says("The depth of an arrangement is the least length of a word that leads from the"
                + " solved arrangement to it.", this::depths);
        doc.says("Arrangements that have a depth are called reachable.", this::reachable);
        doc.says("The table of depths belongs to the present definitions of the moves.",
                this::tableOfDepths);
    }

    private void calls() {
        PermutationPuzzle x = new PermutationPuzzle();
        for (int call = 1; call <= 511; call++) {
            check.due("call " + call, x.exchange(1, 2), call % 2 == 0 ? 1 : 2);
        }
        check.due("call 512", x.token(1), 2);
    }

    private void positionsAndTokens() {
        for (int n = 2; n <= 7; n++) {
            int next = n + 1;
            PermutationPuzzle x = new PermutationPuzzle();
            x.reset(n);
            check.due("positions", x.positions(), n);
            check.due("the first token", x.token(1), 1);
            check.due("the last token", x.token(n), n);
            check.noIndex("no position 0", () -> x.token(0));
            check.noIndex("no position " + next, () -> x.token(next));
        }
        PermutationPuzzle y = new PermutationPuzzle();
        check.badArgument("1 position", () -> y.reset(1));
        check.badArgument("8 positions", () -> y.reset(8));
        check.due("still 3", y.positions(), 3);
    }

    private void solvedArrangement() {
        for (int n = 2; n <= 7; n++) {
            PermutationPuzzle x = Lab.of(n);
            check.due("solved", Lab.tokens(x), "1234567".substring(0, n));
            check.due("its depth", x.depth(), 0);
        }
    }

    private void moves() {
        PermutationPuzzle x = new PermutationPuzzle();
        for (int move = 0; move < 5; move++) {
            int number = move;
            String name = "abcde".substring(move, move + 1);
            check.noElement(name + " at first", () -> x.target(number, 1));
            Lab.type(x, name);
            check.badState("store of " + name, () -> x.store(0));
            check.due("define " + name, Lab.define(x, move, "(12)"), 2);
            check.due("target", x.target(move, 1), 2);
            check.due("store of " + name, Lab.store(x, 0, name), 1);
        }
        check.noIndex("define a sixth", () -> x.define(5));
        for (String name : new String[] {"f", "`", "A", "E"}) {
            Lab.type(x, name);
            check.badArgument("store of " + name, () -> x.store(0));
        }
    }

    private void endOfACycle() {
        PermutationPuzzle x = Lab.of(5, "(135)");
        check.due("target(0, 1)", x.target(0, 1), 3);
        check.due("target(0, 3)", x.target(0, 3), 5);
        check.due("target(0, 5)", x.target(0, 5), 1);
        PermutationPuzzle all = Lab.of(7, "(1234567)", "(71)");
        check.due("from the last position to the first", all.target(0, 7), 1);
        check.due("from the first to the last", all.target(1, 1), 7);
        check.due("from the last to the first", all.target(1, 7), 1);
        Lab.store(all, 0, "a");
        all.perform(0, 1);
        check.due("tokens", Lab.tokens(all), "7123456");
    }

    private void positionsInNoCycle() {
        PermutationPuzzle x = Lab.of(7, "(26)", "", "(1234567)");
        check.due("two cycle round", Lab.targets(x, 0), "1634527");
        check.due("all stay", Lab.targets(x, 1), "1234567");
        check.due("none stays", Lab.targets(x, 2), "2345671");
    }

    private void inverseOfAMove() {
        PermutationPuzzle x = Lab.of(7, "(1234567)", "", "(12)(3456)");
        for (String name : new String[] {"a", "b", "c"}) {
            Lab.store(x, 0, name);
            Lab.store(x, 1, name + "'");
            x.perform(0, 1);
            x.perform(1, 1);
            check.due("tokens after " + name + " and its inverse", Lab.tokens(x), "1234567");
        }
    }

    private void letters() {
        PermutationPuzzle x = Lab.of(2, "", "", "", "", "");
        Lab.store(x, 0, "aa'bb'cc'dd'ee'");
        for (int i = 0; i < 10; i++) {
            check.due("letter(0, " + i + ")", x.letter(0, i), i);
        }
    }

    private void slots() {
        PermutationPuzzle x = new PermutationPuzzle();
        for (int slot = 0; slot < 4; slot++) {
            check.due("length at first", x.wordLength(slot), 0);
        }
        check.noIndex("no slot -1", () -> x.wordLength(-1));
        check.noIndex("no slot 4", () -> x.wordLength(4));
        Lab.define(x, 0, "(12)");
        for (int slot = 0; slot < 4; slot++) {
            Lab.store(x, slot, "a" + (slot + 2));
        }
        for (int slot = 0; slot < 4; slot++) {
            check.due("each holds its own", x.wordLength(slot), slot + 2);
        }
    }

    private void longestWords() {
        PermutationPuzzle x = Lab.of(3, "(12)", "(123)");
        check.due("store", Lab.store(x, 0, "((a5)5)8"), 200);
        check.due("letter 199", x.letter(0, 199), 0);
        Lab.type(x, "((a5)5)8b");
        check.badArithmetic("store of one more", () -> x.store(0));
        check.due("the word stays", x.wordLength(0), 200);
        Lab.store(x, 1, "((b5)5)4");
        check.badArithmetic("conjugate", () -> x.conjugate(2, 1, 1));
        check.due("invert", x.invert(3, 0), 200);
        check.due("conjugate by an empty word", x.conjugate(3, 0, 2), 200);
        check.due("commutator with an empty word", x.commutator(3, 1, 2), 200);
    }

    private void namesInWords() {
        PermutationPuzzle x = Lab.of(7, "(12)");
        Lab.store(x, 0, "a");
        check.due("order", x.order(0), 2);
        Lab.define(x, 0, "(1234567)");
        check.due("order with the new move", x.order(0), 7);
        Lab.define(x, 0, "");
        check.due("order with a move that moves nothing", x.order(0), 1);
        check.due("the word itself", Lab.letters(x, 0), "a");
    }

    private void depths() {
        PermutationPuzzle x = Lab.of(6, "(12)", "(23)", "(34)", "(45)", "(56)");
        check.due("solved", x.depth(), 0);
        Lab.arrange(x, "213456");
        check.due("one letter", x.depth(), 1);
        Lab.arrange(x, "654321");
        check.due("the farthest", x.depth(), 15);
        PermutationPuzzle y = Lab.of(7, "(1234567)");
        Lab.arrange(y, "5671234");
        check.due("a3, or the inverse 4 times", y.depth(), 3);
        Lab.arrange(y, "4567123");
        check.due("a4, or the inverse 3 times", y.depth(), 3);
    }

    private void reachable() {
        PermutationPuzzle x = Lab.of(3, "(123)");
        Lab.arrange(x, "231");
        check.due("an even arrangement", x.depth(), 1);
        Lab.arrange(x, "213");
        check.noElement("an odd one", x::depth);
        check.due("reachable", x.reachable(), 3);
    }

    private void tableOfDepths() {
        PermutationPuzzle x = Lab.of(3, "(123)");
        Lab.arrange(x, "213");
        check.noElement("without (12)", x::depth);
        Lab.define(x, 1, "(12)");
        check.due("with it", x.depth(), 1);
        check.due("reachable", x.reachable(), 6);
        Lab.define(x, 1, "");
        check.noElement("without it again", x::depth);
        check.due("reachable", x.reachable(), 3);
        Lab.type(x, "(12");
        check.badArgument("define", () -> x.define(1));
        check.due("a refused definition", x.reachable(), 3);
    }

    private void rows() {
        PermutationPuzzle x = Lab.of(3, "(123)", "(12)");
        check.noIndex("no row -1", () -> x.fillShares(-1));
        check.noIndex("no row 2", () -> x.fillShares(2));
        x.fillShares(0);
        x.fillShares(1);
        check.due("a float", Lab.element(x, 0, 0), (double) (1f / 6f));
        check.due("a double", Lab.element(x, 1, 0), 1.0 / 6.0);
    }

    private void elements() {
        PermutationPuzzle x = new PermutationPuzzle();
        for (int row = 0; row < 2; row++) {
            int number = row;
            for (int index = 0; index < 24; index++) {
                check.due("element " + index, Lab.element(x, row, index), 0.0);
            }
            check.noIndex("no element -1", () -> x.remainder(number, -1, 1));
            check.noIndex("no element 24", () -> x.remainder(number, 24, 1));
        }
    }

    /** All in one laboratory, so that what one call leaves behind would change a later one, too. */
    private void refusedCalls() {
        PermutationPuzzle x = Lab.busy();
        check.badArgument("reset", () -> x.reset(8));
        check.badArgument("append", () -> x.append((char) 127));
        check.noIndex("define", () -> x.define(5));
        check.noIndex("store", () -> x.store(4));
        check.noIndex("target", () -> x.target(0, 6));
        check.noElement("target", () -> x.target(4, 5));
        check.noIndex("wordLength", () -> x.wordLength(4));
        check.noIndex("letter", () -> x.letter(2, 0));
        check.noIndex("invert", () -> x.invert(0, 4));
        check.noIndex("conjugate", () -> x.conjugate(0, 1, 4));
        check.noIndex("commutator", () -> x.commutator(0, 1, 4));
        check.noIndex("order", () -> x.order(4));
        check.noIndex("isOdd", () -> x.isOdd(4));
        check.noIndex("cycleLength", () -> x.cycleLength(0, 6));
        check.noIndex("isSame", () -> x.isSame(0, 4));
        check.badArgument("perform", () -> x.perform(0, 101));
        check.noIndex("exchange", () -> x.exchange(1, 6));
        check.noIndex("token", () -> x.token(6));
        check.noIndex("solve", () -> x.solve(4));
        check.noIndex("orbit", () -> x.orbit(6));
        check.noElement("findCommutator", () -> x.findCommutator(0, 2));
        check.noIndex("fillShares", () -> x.fillShares(2));
        check.badArgument("scale", () -> x.scale(0, 0, 1001));
        check.badArithmetic("remainder", () -> x.remainder(1, 0, 0));
        check.due("all that is left", Lab.everything(x), Lab.everything(Lab.busy()));
    }

    private void orderOfExceptions() {
        PermutationPuzzle x = Lab.of(3, "(12)");
        x.fillShares(0);
        x.scale(0, 0, 1000);
        x.exchange(1, 3);
        Lab.store(x, 3, "((a5)5)8");
        check.noIndex("target: 1 of 1, 2", () -> x.target(1, 4));
        check.noIndex("conjugate: 1 of 1, 2", () -> x.conjugate(4, 3, 3));
        check.noIndex("commutator: 1 of 1, 2", () -> x.commutator(0, 3, 4));
        check.noIndex("perform: 1 of 1, 2", () -> x.perform(4, 101));
        check.noIndex("solve: 1 of 1, 2", () -> x.solve(4));
        check.noIndex("findCommutator: 1 of 1, 2", () -> x.findCommutator(4, 1));
        check.noIndex("scale: 1 of 1, 2, 3", () -> x.scale(2, 0, 1001));
        check.noIndex("scale: 1 of 1, 2, 3", () -> x.scale(0, 24, 1001));
        x.scale(0, 0, 1000);
        check.badArgument("scale: 2 of 2, 3", () -> x.scale(0, 0, 1001));
        check.badArithmetic("scale: 3", () -> x.scale(0, 0, 1000));
        check.noIndex("remainder: 1 of 1, 2", () -> x.remainder(2, 0, 0));
        check.noIndex("remainder: 1 of 1, 2", () -> x.remainder(1, 24, 0));
        orderOfExceptionsForTexts();
    }

    private void orderOfExceptionsForTexts() {
        PermutationPuzzle x = Lab.of(3, "(12)");
        Lab.type(x, "((a9)9)9b" + "(".repeat(31));
        check.badArgument("append: 1 of 1, 2", () -> x.append((char) 31));
        check.badState("append: 2", () -> x.append('a'));
        check.noIndex("define: 1 of 1, 2", () -> x.define(5));
        check.noIndex("store: 1 of all", () -> x.store(4));
        check.badArgument("store: 2 of 2, 3, 4", () -> x.store(0));
        Lab.type(x, "b1");
        check.badArgument("store: 2 of 2, 3", () -> x.store(0));
        Lab.type(x, "((a9)9)9(");
        check.badArgument("store: 2 of 2, 4", () -> x.store(0));
        Lab.type(x, "((a9)9)9b");
        check.badState("store: 3 of 3, 4", () -> x.store(0));
        Lab.type(x, "((a9)9)9");
        check.badArithmetic("store: 4", () -> x.store(0));
        Lab.type(x, "b");
        check.noIndex("store: 1 of 1, 3", () -> x.store(-1));
        check.badState("store: 3", () -> x.store(0));
        Lab.type(x, "((a9)9)9");
        check.noIndex("store: 1 of 1, 4", () -> x.store(-1));
    }

    private void newLaboratory() {
        PermutationPuzzle x = new PermutationPuzzle();
        check.due("tokens", Lab.tokens(x), "123");
        check.noIndex("no position 4", () -> x.token(4));
        for (int move = 0; move < 5; move++) {
            check.due("move " + move, Lab.targets(x, move), "undefined");
        }
        check.due("reachable", x.reachable(), 1);
    }
}
