/** The boundaries that promises 1 to 8 name. */
final class TextBoundaries extends Boundaries {
    private static final String TOO_LONG = "((a5)5)8a";

    TextBoundaries(Sentences doc, Check check) {
        super(doc, check);
    }

    @Override
    void test() {
        doc.in("Promise 1");
        doc.says("Creates a laboratory with 3 positions.", this::newObject);
        doc.in("Promise 2");
        doc.says("Starts a new puzzle with the solved arrangement.", this::resetArrangement);
        doc.says("All moves become undefined, all word slots empty, and the snapshot is discarded.",
                this::resetDiscards);
        doc.says("The input buffer, the error position and the rows stay.", this::resetKeeps);
        doc.says("`positions`: the number of positions, 2 to 7", this::resetRange);
        doc.says("Returns the previous number of positions.", this::resetAnswer);
        doc.says("Throws `IllegalArgumentException` if the number is out of range",
                this::resetOutOfRange);
        doc.in("Promise 3");
        doc.says("Returns the number of positions.", this::positions);
        doc.in("Promise 4");
        doc.says("Returns the number of characters in the buffer.", this::appendAnswer);
        doc.says("Throws `IllegalArgumentException` if the code is not from 32 to 126",
                this::appendCode);
        doc.says("Throws `IllegalStateException` if the buffer has 40 characters",
                this::appendToFullBuffer);
        define();
        store();
        doc.in("Promise 7");
        doc.says("Returns the error position of the last text that was malformed.",
                this::lastError);
        doc.says("Throws `NoSuchElementException` if there was none", this::noError);
        doc.in("Promise 8");
        doc.says("Throws `IndexOutOfBoundsException` if there is no such move or position",
                this::targetIndexes);
        doc.says("Throws `NoSuchElementException` if the move is undefined",
                this::targetOfUndefined);
    }

    private void define() {
        doc.in("Promise 5");
        doc.says("Defines a move by the cycles in the input buffer, or defines it anew; it is"
                + " defined also if it moves nothing.", this::defineAnew);
        doc.says("The buffer is empty afterwards, even if an IllegalArgumentException is thrown"
                + " because the text is malformed; the error position is then kept for"
                + " errorPosition.", this::defineEmptiesTheBuffer);
        doc.says("`move`: the number of the move, 0 for a to 4 for e", this::defineNumbers);
        doc.says("Returns the number of positions that the move moves.", this::defineAnswer);
        doc.says("Throws `IndexOutOfBoundsException` if there is no such move; the buffer is kept"
                + " then", this::defineIndexes);
        doc.says("Throws `IllegalArgumentException` if the text is malformed",
                this::defineMalformed);
    }

    private void store() {
        doc.in("Promise 6");
        doc.says("The buffer is empty afterwards, even if an exception other than"
                + " IndexOutOfBoundsException is thrown.", this::storeEmptiesTheBuffer);
        doc.says("If the text is malformed, the error position is kept for errorPosition.",
                this::storeKeepsTheError);
        doc.says("Returns the length of the word.", this::storeAnswer);
        doc.says("Throws `IndexOutOfBoundsException` if there is no such slot; the buffer is kept"
                + " then", this::storeIndexes);
        doc.says("Throws `IllegalArgumentException` if the text is malformed",
                this::storeMalformed);
        doc.says("Throws `IllegalStateException` if a name in the text is that of an undefined"
                + " move", this::storeUndefined);
        doc.says("Throws `ArithmeticException` if the word would have more than 200 letters",
                this::storeTooLong);
    }

    private void newObject() {
        PermutationPuzzle x = new PermutationPuzzle();
        check.due("positions", x.positions(), 3);
        check.due("the last token", x.token(3), 3);
        check.noIndex("no position 4", () -> x.token(4));
        check.due("another object has its own", new PermutationPuzzle().reset(7), 3);
        check.due("positions", x.positions(), 3);
    }

    private void resetArrangement() {
        for (int n = 2; n <= 7; n++) {
            PermutationPuzzle x = Lab.busy();
            x.reset(n);
            check.due("tokens", Lab.tokens(x), "1234567".substring(0, n));
            check.due("depth", x.depth(), 0);
        }
    }

    private void resetDiscards() {
        PermutationPuzzle x = Lab.busy();
        x.reset(5);
        check.due("moves and words", Lab.situation(x),
                "12345 undefined undefined undefined undefined undefined [] [] [] []");
        check.badState("restore", x::restore);
        check.due("reachable", x.reachable(), 1);
        x.snapshot();
        x.exchange(1, 2);
        x.restore();
        check.due("a new snapshot", Lab.tokens(x), "12345");
    }

    private void resetKeeps() {
        for (int n = 2; n <= 7; n++) {
            PermutationPuzzle x = Lab.busy();
            String rows = rowsOf(Lab.state(Lab.busy()));
            x.reset(n);
            check.due("error position and rows", rowsOf(Lab.state(x)), rows);
            Lab.type(x, "2");
            check.badState("the buffer has an undefined name", () -> x.store(0));
            Lab.type(x, "(12)");
            x.reset(n);
            check.due("the buffer", x.define(0), 2);
        }
        PermutationPuzzle y = Lab.of(2);
        Lab.type(y, "(17)");
        y.reset(7);
        check.due("the buffer is read with the new positions", y.define(0), 2);
    }

    /** The error position and the rows of a state. */
    private static String rowsOf(String state) {
        return state.substring(state.indexOf("error"));
    }

    private void resetRange() {
        PermutationPuzzle x = new PermutationPuzzle();
        for (int n = 2; n <= 7; n++) {
            x.reset(n);
            check.due("positions", x.positions(), n);
        }
        check.badArgument("reset(1)", () -> x.reset(1));
        check.badArgument("reset(8)", () -> x.reset(8));
        check.due("positions", x.positions(), 7);
    }

    private void resetAnswer() {
        PermutationPuzzle x = new PermutationPuzzle();
        check.due("reset(2)", x.reset(2), 3);
        check.due("reset(7)", x.reset(7), 2);
        check.due("reset(7)", x.reset(7), 7);
        check.badArgument("reset(8)", () -> x.reset(8));
        check.due("reset(2)", x.reset(2), 7);
    }

    private void resetOutOfRange() {
        int[] wrong = {1, 8, 0, -1, -7, Integer.MIN_VALUE, Integer.MAX_VALUE};
        refusals.each(wrong, IllegalArgumentException.class, "reset", PermutationPuzzle::reset);
        check.due("reset(2)", Lab.busy().reset(2), 5);
        check.due("reset(7)", Lab.busy().reset(7), 5);
    }

    private void positions() {
        PermutationPuzzle x = new PermutationPuzzle();
        check.due("new", x.positions(), 3);
        x.reset(2);
        check.due("fewest", x.positions(), 2);
        x.reset(7);
        check.due("most", x.positions(), 7);
    }

    private void appendAnswer() {
        PermutationPuzzle x = new PermutationPuzzle();
        for (int i = 1; i <= 40; i++) {
            check.due("append", x.append('('), i);
        }
        check.badArgument("define", () -> x.define(0));
        check.due("append to an emptied buffer", x.append('('), 1);
    }

    private void appendCode() {
        int[] wrong = {31, 127, 0, 9, 10, 128, 255, 256 + 'a', 65535};
        refusals.each(wrong, IllegalArgumentException.class, "append",
                (x, code) -> x.append((char) code));
        for (int code = 32; code <= 126; code++) {
            check.due("append of code " + code, Lab.busy().append((char) code), 4);
        }
    }

    private static PermutationPuzzle full() {
        PermutationPuzzle x = Lab.busy();
        Lab.type(x, "ab'".repeat(12) + "a");
        return x;
    }

    private void appendToFullBuffer() {
        for (char character : new char[] {'a', ' ', '~'}) {
            refusals.leaves(Lab.everything(full()), IllegalStateException.class, full(),
                    "append to 40 characters", x -> x.append(character));
        }
        PermutationPuzzle x = Lab.idle();
        Lab.type(x, "a".repeat(39));
        check.due("append to 39 characters", x.append('a'), 40);
        check.due("they are read", x.store(0), 40);
        check.due("append then", x.append('a'), 1);
    }

    private void defineAnew() {
        PermutationPuzzle x = new PermutationPuzzle();
        check.due("at first", Lab.targets(x, 0), "undefined");
        check.due("by nothing", x.define(0), 0);
        check.due("is defined", Lab.targets(x, 0), "123");
        check.due("its name is known", Lab.store(x, 0, "a"), 1);
        check.due("anew", Lab.define(x, 0, "(123)"), 3);
        check.due("is the new one", Lab.targets(x, 0), "231");
        check.due("reachable", x.reachable(), 3);
        check.due("anew by nothing", x.define(0), 0);
        check.due("is still defined", Lab.targets(x, 0), "123");
        check.due("reachable", x.reachable(), 1);
    }

    private void defineEmptiesTheBuffer() {
        PermutationPuzzle x = new PermutationPuzzle();
        Lab.define(x, 0, "(12)");
        check.due("after a good text", Lab.typed(x), 0);
        check.badArgument("define by a", () -> x.define(0));
        check.due("error", x.errorPosition(), 0);
        check.due("after a malformed text", Lab.typed(x), 0);
        PermutationPuzzle full = new PermutationPuzzle();
        Lab.type(full, "(123" + "x".repeat(36));
        check.badArgument("define", () -> full.define(0));
        check.due("error", full.errorPosition(), 4);
        check.due("after a full buffer", Lab.typed(full), 0);
    }

    private void defineNumbers() {
        PermutationPuzzle x = Lab.of(2);
        for (int move = 0; move <= 4; move++) {
            check.due("define(" + move + ")", Lab.define(x, move, "(12)"), 2);
        }
        check.due("a to e are known", Lab.store(x, 0, "abcde"), 5);
        check.noIndex("define(-1)", () -> x.define(-1));
        check.noIndex("define(5)", () -> x.define(5));
    }

    private void defineAnswer() {
        PermutationPuzzle x = Lab.of(7);
        check.due("fewest", Lab.define(x, 0, ""), 0);
        check.due("one cycle of two", Lab.define(x, 0, "(17)"), 2);
        check.due("most", Lab.define(x, 0, "(12)(34567)"), 7);
    }

    private void defineIndexes() {
        refusals.noIndex(Refusals.NO_MOVES, "define", PermutationPuzzle::define);
        PermutationPuzzle x = Lab.of(3);
        Lab.type(x, "(13");
        check.noIndex("define(5)", () -> x.define(5));
        check.due("no error position", Lab.error(x), "none");
        check.due("the buffer is kept", x.append(')'), 4);
        check.due("define(4)", x.define(4), 2);
        check.due("targets", Lab.targets(x, 4), "321");
    }

    private void defineMalformed() {
        String[] texts = {"(1", "x", "(11)", "(16)", "(1)", "(12345)("};
        int[] errors = {2, 0, 2, 2, 2, 8};
        for (int i = 0; i < texts.length; i++) {
            for (int move : new int[] {0, 4}) {
                PermutationPuzzle x = Lab.idle();
                Lab.type(x, texts[i]);
                refusals.leaves(idleWithError(errors[i]), IllegalArgumentException.class, x,
                        "define by " + texts[i], y -> y.define(move));
            }
        }
        check.due("define by (15)", Lab.define(Lab.idle(), 4, "(15)"), 2);
        check.due("define by nothing", Lab.idle().define(4), 0);
    }

    /** All of an idle laboratory in which another text was the last that was malformed. */
    private static String idleWithError(int position) {
        return Lab.everything(Lab.idle()).replace("error 3 ", "error " + position + ' ');
    }

    private void storeEmptiesTheBuffer() {
        PermutationPuzzle x = Lab.of(3, "(12)");
        Lab.store(x, 0, "a");
        check.due("after a good text", Lab.typed(x), 0);
        Lab.type(x, "1");
        check.badArgument("store of a1", () -> x.store(0));
        check.due("after a malformed text", Lab.typed(x), 0);
        Lab.type(x, "b");
        check.badState("store of ab", () -> x.store(0));
        check.due("after an undefined name", Lab.typed(x), 0);
        x.store(0);
        Lab.type(x, TOO_LONG);
        check.badArithmetic("store of " + TOO_LONG, () -> x.store(0));
        check.due("after a long word", Lab.typed(x), 0);
        check.noIndex("store(4)", () -> x.store(4));
        check.due("but not after a wrong slot", Lab.typed(x), 1);
    }

    private void storeKeepsTheError() {
        PermutationPuzzle x = Lab.of(3, "(12)");
        Lab.malform(x, "1");
        check.due("the first character", x.errorPosition(), 0);
        Lab.malform(x, "a".repeat(39) + "1");
        check.due("the last of 40 characters", x.errorPosition(), 39);
        Lab.malform(x, "a".repeat(39) + "(");
        check.due("the length of 40", x.errorPosition(), 40);
        Lab.type(x, TOO_LONG);
        check.badArithmetic("store", () -> x.store(0));
        Lab.type(x, "b");
        check.badState("store", () -> x.store(0));
        check.due("other refused texts leave it", x.errorPosition(), 40);
    }

    private void storeAnswer() {
        PermutationPuzzle x = Lab.of(3, "(12)");
        check.due("shortest", Lab.store(x, 0, ""), 0);
        check.due("one letter", Lab.store(x, 0, "a"), 1);
        check.due("longest", Lab.store(x, 0, "((a5)5)8"), 200);
        check.due("shortest again", Lab.store(x, 0, "()9"), 0);
        check.due("wordLength", x.wordLength(0), 0);
    }

    private void storeIndexes() {
        refusals.noIndex(Refusals.NO_SLOTS, "store", PermutationPuzzle::store);
        PermutationPuzzle x = Lab.busy();
        check.noIndex("store(4)", () -> x.store(4));
        check.due("the buffer is kept", x.store(3), 2);
        check.due("letters", Lab.letters(x, 3), "aB");
        check.due("store(0)", Lab.store(x, 0, "a"), 1);
    }

    private void storeMalformed() {
        String[] texts = {"1", "ab1", "(a", "f", "a b", "(((((((a)))))))", "<a>"};
        int[] errors = {0, 2, 2, 0, 1, 6, 2};
        for (int i = 0; i < texts.length; i++) {
            for (int slot : new int[] {0, 2}) {
                PermutationPuzzle x = Lab.idle();
                Lab.type(x, texts[i]);
                refusals.leaves(idleWithError(errors[i]), IllegalArgumentException.class, x,
                        "store of " + texts[i], y -> y.store(slot));
            }
        }
        check.due("store of ab2", Lab.store(Lab.idle(), 0, "ab2"), 3);
        check.due("store of nothing", Lab.idle().store(0), 0);
    }

    private void storeUndefined() {
        for (String text : new String[] {"d", "e", "abcd", "ea", "<a,(d'2)>", "<,e>9"}) {
            PermutationPuzzle x = Lab.idle();
            Lab.type(x, text);
            refusals.leaves(Lab.everything(Lab.idle()), IllegalStateException.class, x,
                    "store of " + text, y -> y.store(0));
        }
        PermutationPuzzle x = Lab.idle();
        check.due("store of abc", Lab.store(x, 0, "abc"), 3);
        Lab.define(x, 3, "");
        check.due("store of d, defined by nothing", Lab.store(x, 0, "d"), 1);
    }

    private void storeTooLong() {
        String[] texts = {TOO_LONG, "a((a5)5)8", "<(a5)5,(b5)5>2b", "((a5)5)4<(a5)5,(b5)5>c",
            "<((a5)5)4,b>", "((((((a9)9)9)9)9)9)9", "<<<<<<a9b9,>9,>9,>9,>9,>9,>9"};
        for (String text : texts) {
            PermutationPuzzle x = Lab.idle();
            Lab.type(x, text);
            refusals.leaves(Lab.everything(Lab.idle()), ArithmeticException.class, x,
                    "store of " + text, y -> y.store(0));
        }
        String[] longest = {"((a5)5)8", "<(a5)5,(b5)5>2", "((a5)5)4<(a5)5,(b5)5>", "<((a5)5)4,>",
            "<,((b'5)5)4>'"};
        for (String text : longest) {
            check.due("store of " + text, Lab.store(Lab.idle(), 0, text), 200);
        }
    }

    private void lastError() {
        PermutationPuzzle x = Lab.of(3, "(12)");
        Lab.malform(x, "aaa1");
        check.due("of a word", x.errorPosition(), 3);
        Lab.type(x, "(1");
        check.badArgument("define", () -> x.define(0));
        check.due("of cycles after it", x.errorPosition(), 2);
        Lab.malform(x, "1");
        check.due("of a word after them", x.errorPosition(), 0);
        Lab.store(x, 0, "a");
        Lab.define(x, 0, "(13)");
        check.due("good texts do not count", x.errorPosition(), 0);
        Lab.type(x, "((1");
        check.noIndex("define(5)", () -> x.define(5));
        check.due("nor one that was not read", x.errorPosition(), 0);
        check.badArgument("define(0)", () -> x.define(0));
        check.due("until it is", x.errorPosition(), 1);
    }

    private void noError() {
        PermutationPuzzle x = new PermutationPuzzle();
        check.noElement("new", x::errorPosition);
        Lab.define(x, 0, "(12)");
        Lab.store(x, 0, "a");
        Lab.type(x, "b");
        check.badState("store of b", () -> x.store(0));
        Lab.type(x, TOO_LONG);
        check.badArithmetic("store of " + TOO_LONG, () -> x.store(0));
        Lab.type(x, "(");
        check.noIndex("define(5)", () -> x.define(5));
        check.noIndex("store(4)", () -> x.store(4));
        String before = Lab.situation(x);
        check.noElement("nothing was malformed", x::errorPosition);
        check.due("the rest stays", Lab.situation(x), before);
        check.due("the buffer, too", x.append('1'), 2);
        check.badArgument("define(0)", () -> x.define(0));
        check.due("now there is one", x.errorPosition(), 2);
    }

    private void targetIndexes() {
        refusals.noIndex(Refusals.NO_MOVES, "target", (x, move) -> x.target(move, 1));
        refusals.noIndex(Refusals.NO_POSITIONS, "target", (x, position) -> x.target(0, position));
        refusals.noIndex(Refusals.NO_POSITIONS, "target of an undefined move",
                (x, position) -> x.target(4, position));
        PermutationPuzzle x = Lab.idle();
        Lab.define(x, 4, "(15)");
        check.due("target(0, 1)", x.target(0, 1), 2);
        check.due("target(0, 5)", x.target(0, 5), 1);
        check.due("target(4, 5)", x.target(4, 5), 1);
        check.due("target(4, 1)", x.target(4, 1), 5);
        x.reset(2);
        x.define(0);
        check.due("the last of 2", x.target(0, 2), 2);
        check.noIndex("one more", () -> x.target(0, 3));
    }

    private void targetOfUndefined() {
        for (int position : new int[] {1, 5}) {
            refusals.busy(java.util.NoSuchElementException.class, "target of d",
                    x -> x.target(3, position));
        }
        PermutationPuzzle x = Lab.idle();
        x.define(3);
        check.due("target of d, defined by nothing", x.target(3, 5), 5);
        x.restore();
        check.noElement("undefined again by restore", () -> x.target(3, 5));
        check.due("a is defined", x.target(0, 5), 1);
        x.reset(5);
        check.noElement("undefined by reset", () -> x.target(0, 5));
    }
}
