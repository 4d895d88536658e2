/** Promises 1 to 8: a new object, puzzles, and the texts that define moves and words. */
public final class TextPromisesTest {
    private static final Check CHECK = new Check();

    public static void main(String[] args) {
        promise1();
        promise2();
        promise2KeepsTheRest();
        promise3();
        promise4();
        promise5();
        promise5Errors();
        promise5Failures();
        promise6();
        promise6Errors();
        promise6Lengths();
        promise6Failures();
        textsDoNotMatterForLaterTexts();
        promise7();
        promise8();
        CHECK.finish();
    }

    private static void promise1() {
        PermutationPuzzle x = new PermutationPuzzle();
        CHECK.due("new: positions", x.positions(), 3);
        CHECK.due("new: tokens", Lab.tokens(x), "123");
        for (int i = 0; i < 5; i++) {
            CHECK.due("new: move " + i, Lab.targets(x, i), "undefined");
        }
        for (int i = 0; i < 4; i++) {
            CHECK.due("new: word " + i, x.wordLength(i), 0);
        }
        for (int i = 0; i < 24; i++) {
            CHECK.due("new: float " + i, Lab.element(x, 0, i), 0.0);
            CHECK.due("new: double " + i, Lab.element(x, 1, i), 0.0);
        }
        CHECK.due("new: error", Lab.error(x), "none");
        CHECK.due("new: reachable", x.reachable(), 1);
        CHECK.due("new: greatest depth", x.greatestDepth(), 0);
        CHECK.due("new: depth", x.depth(), 0);
        for (int i = 1; i <= 3; i++) {
            CHECK.due("new: orbit(" + i + ")", x.orbit(i), 1 << (i - 1));
        }
        CHECK.noElement("new: findCommutator", () -> x.findCommutator(0, 0));
        CHECK.badState("new: restore", x::restore);
        CHECK.due("new: buffer", Lab.typed(x), 0);
    }

    private static void promise2() {
        PermutationPuzzle x = Lab.of(3, "(12)", "(123)");
        Lab.store(x, 0, "ab");
        x.perform(0, 1);
        x.snapshot();
        String before = Lab.state(x);
        for (int wrong : new int[] {1, 8, 0, -1, Integer.MIN_VALUE, Integer.MAX_VALUE}) {
            CHECK.badArgument("reset(" + wrong + ")", () -> x.reset(wrong));
        }
        CHECK.due("a reset that throws", Lab.state(x), before);
        x.restore();
        CHECK.due("reset(7)", x.reset(7), 3);
        CHECK.due("tokens", Lab.tokens(x), "1234567");
        CHECK.due("a", Lab.targets(x, 0), "undefined");
        CHECK.due("b", Lab.targets(x, 1), "undefined");
        CHECK.due("word", x.wordLength(0), 0);
        CHECK.due("reachable", x.reachable(), 1);
        CHECK.badState("restore after reset", x::restore);
        CHECK.due("reset(2)", x.reset(2), 7);
        CHECK.due("tokens", Lab.tokens(x), "12");
        CHECK.due("reset to the same", x.reset(2), 2);
    }

    private static void promise2KeepsTheRest() {
        PermutationPuzzle x = Lab.of(4, "(12)");
        x.fillShares(1);
        Lab.type(x, "(15)");
        CHECK.badArgument("define", () -> x.define(1));
        Lab.type(x, "(15)");
        x.reset(5);
        CHECK.due("error position", Lab.error(x), "2");
        CHECK.due("row", Lab.element(x, 1, 1), 0.5);
        CHECK.due("the buffer is read with the new positions", x.define(2), 2);
        CHECK.due("targets", Lab.targets(x, 2), "52341");
    }

    private static void promise3() {
        PermutationPuzzle x = new PermutationPuzzle();
        for (int n = 2; n <= 7; n++) {
            x.reset(n);
            CHECK.due("positions()", x.positions(), n);
        }
    }

    private static void promise4() {
        PermutationPuzzle x = new PermutationPuzzle();
        for (int wrong : new int[] {0, 10, 31, 127, 128, 233, 8364, 65535}) {
            CHECK.badArgument("append of code " + wrong, () -> x.append((char) wrong));
        }
        CHECK.due("append(32)", x.append((char) 32), 1);
        CHECK.due("append(126)", x.append((char) 126), 2);
        for (int i = 3; i <= 40; i++) {
            CHECK.due("append", x.append('a'), i);
        }
        CHECK.badState("append to a full buffer", () -> x.append('a'));
        CHECK.badArgument("the code is checked first", () -> x.append((char) 31));
        CHECK.badArgument("the code is checked first", () -> x.append((char) 127));
        CHECK.badArgument("store", () -> x.store(0));
        CHECK.due("buffer", Lab.typed(x), 0);

        PermutationPuzzle y = Lab.of(2, "(12)");
        Lab.type(y, "a".repeat(40));
        CHECK.badState("append to a full buffer", () -> y.append('a'));
        CHECK.due("40 characters are read", y.store(0), 40);
    }

    private static void promise5() {
        PermutationPuzzle x = new PermutationPuzzle();
        x.reset(7);
        CHECK.due("one cycle", Lab.define(x, 0, "(135)"), 3);
        CHECK.due("its targets", Lab.targets(x, 0), "3254167");
        CHECK.due("several cycles", Lab.define(x, 1, "(71)(2346)"), 6);
        CHECK.due("their targets", Lab.targets(x, 1), "7346521");
        CHECK.due("three cycles", Lab.define(x, 4, "(12)(34)(56)"), 6);
        CHECK.due("all positions", Lab.define(x, 3, "(7654321)"), 7);
        CHECK.due("no cycles", Lab.define(x, 2, ""), 0);
        CHECK.due("defined all the same", Lab.targets(x, 2), "1234567");
        CHECK.due("defined anew", Lab.define(x, 0, "(67)"), 2);
        CHECK.due("its targets", Lab.targets(x, 0), "1234576");
        CHECK.due("buffer", Lab.typed(x), 0);
    }

    private static void cycleError(int positions, String text, int want) {
        PermutationPuzzle x = Lab.of(positions);
        Lab.type(x, text);
        CHECK.badArgument("define of " + text, () -> x.define(0));
        CHECK.due("error in " + text, Lab.error(x), Integer.toString(want));
        CHECK.due("buffer after " + text, Lab.typed(x), 0);
        CHECK.due("move after " + text, Lab.targets(x, 0), "undefined");
    }

    private static void promise5Errors() {
        String[] texts = {"1", "()", "(1)", "(12", "(121)", "(12)(1", "(12)(23)", "(12)3", "(126)",
            "(120)", "(12))", "((12)", "(1 2)", "(12)(", "(12345)(", "(1234)(5)", "(1234)(5",
            "(12345)()", "(12345)(1", "a", "(12)'", "(12)2", "<12>", "(1,2)", "(9", "(12)(34)(",
            "(", ")", "(11", "(1/", "(1:", " (12)", "(12) "};
        int[] errors = {0, 1, 2, 3, 3, 5, 5, 4, 3,
            3, 4, 1, 2, 5, 8, 8, 8,
            8, 8, 0, 4, 4, 0, 2, 1, 9,
            1, 0, 2, 2, 2, 0, 4};
        for (int i = 0; i < texts.length; i++) {
            cycleError(5, texts[i], errors[i]);
        }
        cycleError(2, "(12)(", 5);
        cycleError(2, "(13)", 2);
        cycleError(2, "(3", 1);
        cycleError(7, "(78)", 2);
        cycleError(7, "(12)(34)(56)(7)", 14);
        cycleError(7, "(".repeat(40), 1);
    }

    private static void promise5Failures() {
        PermutationPuzzle x = Lab.of(3, "(12)");
        Lab.type(x, "(13");
        for (int wrong : new int[] {-1, 5, Integer.MIN_VALUE, Integer.MAX_VALUE}) {
            CHECK.noIndex("define(" + wrong + ") before the text", () -> x.define(wrong));
        }
        CHECK.due("no error position", Lab.error(x), "none");
        CHECK.due("the buffer is kept", x.append(')'), 4);
        x.define(4);
        CHECK.due("and read", Lab.targets(x, 4), "321");
        Lab.type(x, "(23");
        CHECK.badArgument("define", () -> x.define(0));
        CHECK.due("a malformed text leaves the move", Lab.targets(x, 0), "213");
        CHECK.due("reachable", x.reachable(), 6);
    }

    private static void word(String text, String want) {
        PermutationPuzzle x = Lab.of(4, "(1234)", "(12)", "(123)", "", "(34)");
        CHECK.due("length of " + text, Lab.store(x, 3, text), want.length());
        CHECK.due("letters of " + text, Lab.letters(x, 3), want);
        CHECK.due("buffer after " + text, Lab.typed(x), 0);
        CHECK.due("error after " + text, Lab.error(x), "none");
    }

    private static void promise6() {
        word("", "");
        word("a", "a");
        word("a'", "A");
        word("abcde", "abcde");
        word("e'd'c'b'a'", "EDCBA");
        word("aa'", "aA");
        word("a2", "aa");
        word("a'2", "AA");
        word("a9", "aaaaaaaaa");
        word("(ab)'", "BA");
        word("(ab)'2", "BABA");
        word("(ab')2", "aBaB");
        word("(a2b)'", "BAA");
        word("<a,b>", "abAB");
        word("<a,b>'", "baBA");
        word("<a,b>2", "abABabAB");
        word("<ab,c>", "abcBAC");
        word("<a2,b'>'", "BaabAA");
        word("<<a,b>,c>", "abABcbaBAC");
        word("<a,<b,c>>", "abcBCAcbCB");
        word("<,>", "");
        word("<a,>", "aA");
        word("<,a>", "aA");
        word("()", "");
        word("()'9", "");
        word("d()e", "de");
        word("((a)2)3", "aaaaaa");
        word("((a)'2)'", "aa");
        word("((((((a))))))", "a");
        word("(a)(b)(a)(b)(a)(b)(a)(b)", "abababab");
        word("<a,b><c,d>'c2", "abABdcDCcc");
    }

    private static void wordError(String text, int want) {
        PermutationPuzzle x = Lab.of(3, "(12)");
        Lab.store(x, 0, "a2");
        Lab.type(x, text);
        CHECK.badArgument("store of " + text, () -> x.store(0));
        CHECK.due("error in " + text, Lab.error(x), Integer.toString(want));
        CHECK.due("buffer after " + text, Lab.typed(x), 0);
        CHECK.due("word after " + text, Lab.letters(x, 0), "aa");
    }

    private static void promise6Errors() {
        String[] texts = {"a1", "a0", "a''", "a2'", "a22", "a'22", "2", "'", "f", "`", "A", " ",
            "a b", ")", ">", ",", "a,b", "(a,b)", "(a>", "<a)", "<a>", "<a,b", "<a,b,c>", "<a,b)",
            "(", "<", "(((((((", "<<<<<<<", "(<(<(<(", "<,<,<,<,<,<,<", "(a))", "(a)(b", "()2'",
            "(2)", "('a)", "<2,a>", "<a,'>", "(a)22", "ab1c)", "((((((a))))))(", "((((((a)((",
            "((((((a)(b", "a'1", "a:", "<a,b>1", "(12)", "<a,"};
        int[] errors = {1, 1, 2, 2, 2, 3, 0, 0, 0, 0, 0, 0,
            1, 0, 0, 0, 1, 2, 2, 2, 2, 4, 4, 4,
            1, 1, 6, 6, 6, 12, 3, 5, 3,
            1, 1, 1, 3, 4, 2, 14, 9,
            10, 2, 1, 5, 1, 3};
        for (int i = 0; i < texts.length; i++) {
            wordError(texts[i], errors[i]);
        }
        wordError("a".repeat(39) + "(", 40);
        wordError("(".repeat(40), 6);
    }

    private static void promise6Lengths() {
        PermutationPuzzle x = Lab.of(3, "(12)", "(123)");
        CHECK.due("200 letters", Lab.store(x, 0, "((a5)5)8"), 200);
        CHECK.due("200 letters", Lab.store(x, 1, "((a5)5)4<(a5)5,(b5)5>"), 200);
        CHECK.due("200 letters", Lab.store(x, 1, "<(a5)5,(b5)5>'2"), 200);
        CHECK.due("128 letters", Lab.store(x, 2, "<<<<<<a,b>,>,>,>,>,>"), 128);
        String[] tooLong = {"((a5)5)8a", "a((a5)5)8", "<(a5)5,(b5)5>2b", "<((a5)5)4,b>",
            "((((((a9)9)9)9)9)9)9", "<<<<<<a9b9a9,>9,>9,>9,>9,>9,>9", "((a9)9)3", "<(a9)9,(b5)4>"};
        for (String text : tooLong) {
            Lab.type(x, text);
            CHECK.badArithmetic("store of " + text, () -> x.store(2));
            CHECK.due("word after " + text, x.wordLength(2), 128);
            CHECK.due("error after " + text, Lab.error(x), "none");
            CHECK.due("buffer after " + text, Lab.typed(x), 0);
            x.store(3);
        }
    }

    private static void promise6Failures() {
        PermutationPuzzle x = Lab.of(3, "(12)");
        Lab.store(x, 1, "a");
        Lab.type(x, "b");
        for (int wrong : new int[] {-1, 4, Integer.MIN_VALUE, Integer.MAX_VALUE}) {
            CHECK.noIndex("store(" + wrong + ")", () -> x.store(wrong));
        }
        CHECK.due("the buffer is kept", x.append('1'), 2);
        CHECK.badArgument("malformed before undefined", () -> x.store(1));
        CHECK.due("error", Lab.error(x), "1");
        Lab.type(x, "aab");
        CHECK.badState("undefined", () -> x.store(1));
        CHECK.due("buffer", Lab.typed(x), 0);
        Lab.type(x, "((b9)9)9");
        CHECK.badArgument("the buffer had an a before (", () -> {
            Lab.type(x, ")");
            x.store(1);
        });
        CHECK.due("error", Lab.error(x), "9");
        Lab.type(x, "((ab9)9)9");
        CHECK.badState("undefined before too long", () -> x.store(1));
        Lab.type(x, "((a9)9)9(e");
        CHECK.badArgument("malformed before all others", () -> x.store(1));
        CHECK.due("error", Lab.error(x), "10");
        CHECK.due("the word stays", Lab.letters(x, 1), "a");
        CHECK.due("buffer", Lab.typed(x), 0);
    }

    /** Whatever was open, or could have followed, in a text is forgotten with it. */
    private static void textsDoNotMatterForLaterTexts() {
        PermutationPuzzle x = Lab.of(5, "(12)", "(345)");
        for (int i = 0; i < 3; i++) {
            Lab.type(x, "(<(<(a");
            CHECK.badArgument("store of an open text", () -> x.store(0));
            CHECK.due("its error", x.errorPosition(), 6);
            Lab.type(x, "'");
            CHECK.badArgument("store of an apostrophe alone", () -> x.store(0));
            CHECK.due("its error", x.errorPosition(), 0);
            Lab.type(x, "(((((a9)9)9");
            CHECK.badArgument("store of a long open text", () -> x.store(0));
            Lab.type(x, "(((((a9)9)9)9)9)");
            CHECK.badArithmetic("store of a long text", () -> x.store(0));
            CHECK.due("store", Lab.store(x, 0, "<(<(<(a),b>),>),b>"), 18);
            CHECK.due("store", Lab.store(x, 0, "b"), 1);
            Lab.type(x, "2");
            CHECK.badArgument("store of a digit alone", () -> x.store(0));
            Lab.type(x, "(123");
            CHECK.badArgument("define of an open text", () -> x.define(2));
            CHECK.due("its error", x.errorPosition(), 4);
            CHECK.due("define", Lab.define(x, 2, "(12)(34)"), 4);
            CHECK.due("targets", Lab.targets(x, 2), "21435");
        }
    }

    private static void promise7() {
        PermutationPuzzle x = Lab.of(3, "(12)");
        CHECK.noElement("errorPosition()", x::errorPosition);
        Lab.store(x, 0, "a");
        Lab.type(x, "b");
        CHECK.badState("store", () -> x.store(0));
        CHECK.noElement("errorPosition()", x::errorPosition);
        Lab.type(x, "aa1");
        CHECK.badArgument("store", () -> x.store(0));
        CHECK.due("errorPosition()", x.errorPosition(), 2);
        CHECK.due("errorPosition() again", x.errorPosition(), 2);
        Lab.store(x, 0, "aaaa");
        Lab.define(x, 0, "(13)");
        CHECK.due("good texts leave it", x.errorPosition(), 2);
        x.snapshot();
        Lab.type(x, "1");
        CHECK.badArgument("define", () -> x.define(0));
        CHECK.due("the last one counts", x.errorPosition(), 0);
        x.restore();
        CHECK.due("restore leaves it", x.errorPosition(), 0);
    }

    private static void promise8() {
        PermutationPuzzle x = Lab.of(4, "(1234)");
        Lab.define(x, 4, "(24)");
        CHECK.due("target(0, 1)", x.target(0, 1), 2);
        CHECK.due("target(0, 4)", x.target(0, 4), 1);
        CHECK.due("target(4, 4)", x.target(4, 4), 2);
        CHECK.due("target(4, 3)", x.target(4, 3), 3);
        for (int wrong : new int[] {-1, 5, Integer.MIN_VALUE, Integer.MAX_VALUE}) {
            CHECK.noIndex("target of move " + wrong, () -> x.target(wrong, 1));
        }
        for (int wrong : new int[] {0, 5, -1, Integer.MIN_VALUE, Integer.MAX_VALUE}) {
            CHECK.noIndex("target of position " + wrong, () -> x.target(0, wrong));
            CHECK.noIndex("the index is checked first", () -> x.target(1, wrong));
        }
        CHECK.noElement("target of an undefined move", () -> x.target(1, 4));
    }
}
