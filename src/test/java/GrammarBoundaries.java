/** The boundaries that the section 'Description' names for texts and the errors in them. */
final class GrammarBoundaries extends Boundaries {
    GrammarBoundaries(Sentences doc, Check check) {
        super(doc, check);
    }

    @Override
    void test() {
        doc.in("Description");
        doc.says("The input buffer holds up to 40 characters with codes from 32 to 126.",
                this::buffer);
        cycles();
        words();
        errors();
    }

    private void cycles() {
        doc.says("A move is a permutation of the positions, written as disjoint cycles of at least"
                + " two positions", this::shortestCycles);
        doc.says("cycles = { \"(\" position position { position } \")\" }", this::numbersOfCycles);
        doc.says("A position is a digit, and no position occurs twice.", this::positionsTwice);
    }

    private void words() {
        doc.says("word = { item }", this::numbersOfItems);
        doc.says("item = element [ \"'\" ] [ digit ]", this::items);
        doc.says("element = name, or \"(\" word \")\", or \"<\" word \",\" word \">\"",
                this::elements);
        doc.says("A name is a to e.", this::names);
        doc.says("The inverse of a word consists of the inverses of its letters in reverse order.",
                this::inverses);
        doc.says("An apostrophe takes the inverse of an element, and a digit, 2 to 9, which comes"
                + " after the apostrophe, repeats the element, or its inverse, so many times.",
                this::digits);
        doc.says("A move can be defined by empty cycles, and a word can be empty.", this::empty);
        doc.says("There are no spaces.", this::spaces);
        doc.says("At most 6 of ( and < can be open at the same time.", this::open);
    }

    private void errors() {
        doc.says("The error position is the lowest index of a character that no text of the grammar"
                + " can have there, given the characters before it", this::lowestIndex);
        doc.says("a second occurrence of a position, a position that the puzzle does not have, and"
                + " a seventh open ( or < are such characters, too.", this::suchCharacters);
        doc.says("Whether enough positions are left for one more cycle does not matter for that.",
                this::positionsLeft);
        doc.says("If there is no such character, it is the length of the text.", this::noCharacter);
    }

    /** The text defines a move of a puzzle with so many positions that moves so many. */
    private void move(int positions, String text, int moved) {
        PermutationPuzzle x = Lab.of(positions);
        check.due("define by " + text, Lab.define(x, 0, text), moved);
        check.due("error after " + text, Lab.error(x), "none");
    }

    private void noMove(int positions, String text, int error) {
        PermutationPuzzle x = Lab.of(positions);
        Lab.type(x, text);
        check.badArgument("define by " + text, () -> x.define(0));
        check.due("error in " + text, Lab.error(x), Integer.toString(error));
        check.due("move after " + text, Lab.targets(x, 0), "undefined");
    }

    private static PermutationPuzzle withAllMoves() {
        return Lab.of(4, "(1234)", "(12)", "(123)", "", "(34)");
    }

    private void word(String text, String letters) {
        PermutationPuzzle x = withAllMoves();
        check.due("store of " + text, Lab.store(x, 0, text), letters.length());
        check.due("letters of " + text, Lab.letters(x, 0), letters);
        check.due("error after " + text, Lab.error(x), "none");
    }

    private void noWord(String text, int error) {
        PermutationPuzzle x = withAllMoves();
        Lab.type(x, text);
        check.badArgument("store of " + text, () -> x.store(0));
        check.due("error in " + text, Lab.error(x), Integer.toString(error));
        check.due("length after " + text, x.wordLength(0), 0);
    }

    private void buffer() {
        PermutationPuzzle x = Lab.of(2, "(12)");
        check.badArgument("code 31", () -> x.append((char) 31));
        check.due("code 32", x.append((char) 32), 1);
        check.due("code 126", x.append((char) 126), 2);
        check.badArgument("code 127", () -> x.append((char) 127));
        check.badArgument("code 65535", () -> x.append((char) 65535));
        for (int i = 3; i <= 40; i++) {
            check.due("character " + i, x.append('a'), i);
        }
        check.badState("character 41", () -> x.append('a'));
        check.badArgument("store", () -> x.store(0));
        Lab.type(x, "a".repeat(40));
        check.due("40 characters are read", x.store(0), 40);
    }

    private void shortestCycles() {
        move(3, "(12)", 2);
        noMove(3, "(1)", 2);
        noMove(3, "()", 1);
        move(3, "(123)", 3);
        noMove(7, "(12)(3)", 6);
        noMove(7, "(12)()", 5);
        move(7, "(12)(34)", 4);
        noMove(4, "(12)(14)", 5);
    }

    private void numbersOfCycles() {
        move(7, "", 0);
        move(7, "(12)", 2);
        move(7, "(12)(34)", 4);
        move(7, "(12)(34)(56)", 6);
        move(7, "(12)(34)(567)", 7);
        move(7, "(1234567)", 7);
        noMove(7, "(12", 3);
        noMove(7, "12)", 0);
        noMove(7, "(12))", 4);
        noMove(7, "((12)", 1);
    }

    private void positionsTwice() {
        move(2, "(21)", 2);
        noMove(2, "(11)", 2);
        noMove(2, "(121)", 3);
        move(4, "(12)(34)", 4);
        noMove(4, "(12)(32)", 6);
        noMove(4, "(12)(23)", 5);
        noMove(4, "(1a)", 2);
        noMove(4, "(1/)", 2);
        noMove(4, "(1:)", 2);
    }

    private void numbersOfItems() {
        word("", "");
        word("a", "a");
        word("a".repeat(40), "a".repeat(40));
    }

    private void items() {
        word("a", "a");
        word("a'", "A");
        word("a2", "aa");
        word("a'2", "AA");
        noWord("a''", 2);
        noWord("a22", 2);
        noWord("a2'", 2);
        noWord("a'2'", 3);
        noWord("a'22", 3);
        noWord("'", 0);
        noWord("2", 0);
        noWord("('a)", 1);
        noWord("<a,2>", 3);
    }

    private void elements() {
        word("()", "");
        word("(a)", "a");
        word("<,>", "");
        word("<a,>", "aA");
        word("<,a>", "aA");
        word("<a,b>", "abAB");
        noWord("<a>", 2);
        noWord("<a,b,c>", 4);
        noWord("(a,b)", 2);
        noWord("(a>", 2);
        noWord("<a,b)", 4);
        noWord("<a)", 2);
        noWord(",", 0);
        noWord(")", 0);
        noWord(">", 0);
    }

    private void names() {
        word("a", "a");
        word("e", "e");
        noWord("`", 0);
        noWord("f", 0);
        noWord("A", 0);
        noWord("E", 0);
    }

    private void inverses() {
        word("()'", "");
        word("(a)'", "A");
        word("(ab'c)'", "CbA");
        word("<a,b>'", "baBA");
    }

    private void digits() {
        String nine = "aaaaaaaaa";
        for (int digit = 2; digit <= 9; digit++) {
            word("a" + digit, nine.substring(0, digit));
            word("a'" + digit, nine.substring(0, digit).toUpperCase());
        }
        noWord("a0", 1);
        noWord("a1", 1);
        noWord("a'1", 2);
        noWord("a:", 1);
        word("()9", "");
        word("(ab)'2", "BABA");
        word("<a,b>2", "abABabAB");
    }

    private void empty() {
        PermutationPuzzle x = Lab.of(4);
        check.due("define", x.define(0), 0);
        check.due("targets", Lab.targets(x, 0), "1234");
        check.due("store", Lab.store(x, 1, "a"), 1);
        check.due("store", x.store(1), 0);
        check.due("length", x.wordLength(1), 0);
        check.due("error", Lab.error(x), "none");
    }

    private void spaces() {
        noMove(4, " ", 0);
        noMove(4, " (12)", 0);
        noMove(4, "( 12)", 1);
        noMove(4, "(1 2)", 2);
        noMove(4, "(12 )", 3);
        noMove(4, "(12) ", 4);
        noMove(4, "(12) (34)", 4);
        noWord(" ", 0);
        noWord(" a", 0);
        noWord("a b", 1);
        noWord("a ", 1);
        noWord("a '", 1);
        noWord("( )", 1);
        noWord("<a, b>", 3);
    }

    private void open() {
        word("((((((a))))))", "a");
        noWord("(((((((a)))))))", 6);
        word("((((((a))))))((((((b))))))", "ab");
        word("((((((a)(b))))))", "ab");
        noWord("((((((a)((b)))))))", 9);
        word("(<(<(<a,>),>),>)", "aAaAaAaA");
        noWord("(<(<(<(a),>),>),>)", 6);
        word("<a,(((((b)))))>", "abAB");
        noWord("<a,((((((b))))))>", 8);
        word("<,<,<,<,<,<,>>>>>>", "");
        noWord("<,<,<,<,<,<,<,>>>>>>>", 12);
        word("()".repeat(20), "");
        PermutationPuzzle x = Lab.of(2, "(12)", "");
        check.due("six commutators", Lab.store(x, 0, "<<<<<<a,b>,b>,b>,b>,b>,b>"), 190);
        Lab.type(x, "<<<<<<<,>,>,>,>,>,>,>");
        check.badArgument("seven", () -> x.store(0));
        check.due("error", x.errorPosition(), 6);
    }

    private void lowestIndex() {
        noWord("1", 0);
        noWord("a1b1", 1);
        noWord("a".repeat(39) + ")", 39);
        noWord("ab(c1d)", 4);
        noWord("(" + ")".repeat(39), 2);
        noMove(7, "x(12)", 0);
        noMove(7, "(11)(11)", 2);
        noMove(7, "(12)(3456)(8", 11);
        noMove(7, "(12)(34)(56)7", 12);
        noMove(7, "(".repeat(40), 1);
    }

    private void suchCharacters() {
        noMove(7, "(171)", 3);
        noMove(7, "(17)(6547)", 8);
        for (int n = 2; n <= 7; n++) {
            move(n, "(1" + n + ")", 2);
            noMove(n, "(1" + (n + 1) + ")", 2);
            noMove(n, "(0" + n + ")", 1);
        }
        noMove(7, "(9", 1);
        noWord("(((((((", 6);
        noWord("<<<<<<<", 6);
        noWord("((((((<", 6);
        noWord("<<<<<<(", 6);
        noWord("a'2<b,((((((", 11);
    }

    private void positionsLeft() {
        noMove(2, "(12)(", 5);
        noMove(2, "(12)(1", 5);
        noMove(2, "(12)()", 5);
        noMove(3, "(12)(", 5);
        noMove(3, "(12)(3", 6);
        noMove(3, "(12)(3)", 6);
        noMove(7, "(1234567)(", 10);
        noMove(7, "(123456)(7", 10);
        noMove(7, "(123456)(7)", 10);
    }

    private void noCharacter() {
        noMove(3, "(", 1);
        noMove(3, "(1", 2);
        noMove(3, "(12", 3);
        noMove(3, "(123", 4);
        noWord("(", 1);
        noWord("<", 1);
        noWord("<a", 2);
        noWord("<a,", 3);
        noWord("<a,b", 4);
        noWord("((((((", 6);
        noWord("(a'", 3);
        noWord("(a'2", 4);
        noWord("(" + "a".repeat(39), 40);
        noWord("a".repeat(39) + "<", 40);
    }
}
