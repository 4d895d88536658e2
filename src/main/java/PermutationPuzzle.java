import java.util.NoSuchElementException;

/**
 * A laboratory for permutation puzzles: moves that turn tokens round, words of moves with powers,
 * commutators and conjugates, orders, parities and orbits, a table of the depths of all reachable
 * arrangements, shortest solutions, and a search for commutators that move few tokens.
 */
public final class PermutationPuzzle {
    private static final int LEAST_POSITIONS = 2;
    private static final int MOST_POSITIONS = 7;
    private static final int FIRST_POSITIONS = 3;
    private static final int MOST_ARRANGEMENTS = 5040;
    private static final int MOVES = 5;
    private static final int LETTERS = 2 * MOVES;
    private static final int SLOTS = 4;
    private static final int MOST_LETTERS = 200;
    private static final int LEAST_CODE = 32;
    private static final int GREATEST_CODE = 126;
    private static final int MOST_CHARACTERS = 40;
    private static final int MOST_OPEN = 6;
    private static final int MOST_TIMES = 100;
    private static final int FLOATS = 0;
    private static final int DOUBLES = 1;
    private static final int ROW_LENGTH = 24;
    private static final int MOST_FACTOR = 1000;
    private static final int MOST_PRODUCT = 1000000;
    private static final int NO_ERROR = -1;

    /**
     * The permutation that moves nothing. A permutation is one int, three bits for the image of
     * each index from 0 to 6, so that no call has to make an object for one. Positions that the
     * puzzle does not have stay where they are.
     */
    private static final int SOLVED = 06543210;

    private final Text text = new Text();
    private final CycleReader cycleReader = new CycleReader();
    private final WordChecker wordChecker = new WordChecker();
    private final WordWriter wordWriter = new WordWriter();
    private final CommutatorSearch search = new CommutatorSearch();
    private final DepthTable table = new DepthTable();
    private final Situation present = new Situation();
    private final Situation saved = new Situation();
    /** A slot may be source and target of one call, so every word is made here first. */
    private final Word draft = new Word();
    private final float[] floats = new float[ROW_LENGTH];
    private final double[] doubles = new double[ROW_LENGTH];
    private int positions = FIRST_POSITIONS;
    private int lastError = NO_ERROR;
    private boolean hasSnapshot = false;
    private boolean tableIsCurrent = false;

    public PermutationPuzzle() {
    }

    public int reset(int positions) throws IllegalArgumentException {
        if (positions < LEAST_POSITIONS || positions > MOST_POSITIONS) {
            throw new IllegalArgumentException("a puzzle has 2 to 7 positions");
        }
        int previous = this.positions;
        this.positions = positions;
        present.clear();
        hasSnapshot = false;
        tableIsCurrent = false;
        return previous;
    }

    public int positions() {
        return positions;
    }

    public int append(char character) throws IllegalArgumentException, IllegalStateException {
        if (character < LEAST_CODE || character > GREATEST_CODE) {
            throw new IllegalArgumentException("the code is not from 32 to 126");
        }
        if (!text.add(character)) {
            throw new IllegalStateException("the buffer is full");
        }
        return text.length();
    }

    public int define(int move) throws IndexOutOfBoundsException, IllegalArgumentException {
        checkMove(move);
        int error = cycleReader.errorIn(text, positions);
        text.clear();
        if (error != NO_ERROR) {
            lastError = error;
            throw new IllegalArgumentException("the cycles are malformed");
        }
        int effect = cycleReader.effect();
        present.defineMove(move, effect);
        tableIsCurrent = false;
        return Permutation.differences(effect, SOLVED);
    }

    public int store(int slot) throws IndexOutOfBoundsException, IllegalArgumentException,
            IllegalStateException, ArithmeticException {
        checkSlot(slot);
        int error = wordChecker.errorIn(text);
        boolean defined = error == NO_ERROR && present.definesNamesIn(text);
        boolean fits = defined && wordWriter.write(text, draft);
        text.clear();
        if (error != NO_ERROR) {
            lastError = error;
            throw new IllegalArgumentException("the word is malformed");
        }
        if (!defined) {
            throw new IllegalStateException("a name is that of an undefined move");
        }
        if (!fits) {
            throw new ArithmeticException("the word has more than 200 letters");
        }
        return keepDraft(slot);
    }

    public int errorPosition() throws NoSuchElementException {
        if (lastError == NO_ERROR) {
            throw new NoSuchElementException("no text was malformed");
        }
        return lastError;
    }

    public int target(int move, int position)
            throws IndexOutOfBoundsException, NoSuchElementException {
        checkMove(move);
        checkPosition(position);
        if (!present.isDefined(move)) {
            throw new NoSuchElementException("the move is undefined");
        }
        return Permutation.imageOf(present.effectOfLetter(2 * move), position - 1) + 1;
    }

    // ---- words

    public int wordLength(int slot) throws IndexOutOfBoundsException {
        checkSlot(slot);
        return present.word(slot).length();
    }

    public int letter(int slot, int index) throws IndexOutOfBoundsException {
        checkSlot(slot);
        Word word = present.word(slot);
        if (index < 0 || index >= word.length()) {
            throw new IndexOutOfBoundsException("no such letter");
        }
        return word.at(index);
    }

    public int invert(int target, int slot) throws IndexOutOfBoundsException {
        checkSlot(target);
        checkSlot(slot);
        draft.clear();
        draft.addInverseOf(present.word(slot));
        return keepDraft(target);
    }

    public int conjugate(int target, int u, int v)
            throws IndexOutOfBoundsException, ArithmeticException {
        checkSlot(target);
        checkSlot(u);
        checkSlot(v);
        draft.clear();
        boolean fits = draft.addInverseOf(present.word(v))
                && draft.addAll(present.word(u))
                && draft.addAll(present.word(v));
        if (!fits) {
            throw new ArithmeticException("the conjugate has more than 200 letters");
        }
        return keepDraft(target);
    }

    public int commutator(int target, int u, int v)
            throws IndexOutOfBoundsException, ArithmeticException {
        checkSlot(target);
        checkSlot(u);
        checkSlot(v);
        draft.clear();
        boolean fits = draft.addAll(present.word(u))
                && draft.addAll(present.word(v))
                && draft.addInverseOf(present.word(u))
                && draft.addInverseOf(present.word(v));
        if (!fits) {
            throw new ArithmeticException("the commutator has more than 200 letters");
        }
        return keepDraft(target);
    }

    public int order(int slot) throws IndexOutOfBoundsException {
        checkSlot(slot);
        return Permutation.orderOf(present.effectOfWord(slot));
    }

    public boolean isOdd(int slot) throws IndexOutOfBoundsException {
        checkSlot(slot);
        return Permutation.hasOddParity(present.effectOfWord(slot));
    }

    public int cycleLength(int slot, int position) throws IndexOutOfBoundsException {
        checkSlot(slot);
        checkPosition(position);
        return Permutation.cycleOf(present.effectOfWord(slot), position - 1);
    }

    public boolean isSame(int one, int other) throws IndexOutOfBoundsException {
        checkSlot(one);
        checkSlot(other);
        return present.effectOfWord(one) == present.effectOfWord(other);
    }

    // ---- arrangements

    public int perform(int slot, int times)
            throws IndexOutOfBoundsException, IllegalArgumentException {
        checkSlot(slot);
        if (times < -MOST_TIMES || times > MOST_TIMES) {
            throw new IllegalArgumentException("times is not from -100 to 100");
        }
        int effect = present.effectOfWord(slot);
        int step = times < 0 ? Permutation.inverseOf(effect) : effect;
        int before = present.places();
        int after = before;
        for (int i = Math.abs(times); i > 0; i--) {
            after = Permutation.then(after, step);
        }
        present.arrange(after);
        return Permutation.differences(before, after);
    }

    public int exchange(int one, int other) throws IndexOutOfBoundsException {
        checkPosition(one);
        checkPosition(other);
        int swap = Permutation.withImage(SOLVED, one - 1, other - 1);
        swap = Permutation.withImage(swap, other - 1, one - 1);
        present.arrange(Permutation.then(present.places(), swap));
        return tokenOn(one);
    }

    public int token(int position) throws IndexOutOfBoundsException {
        checkPosition(position);
        return tokenOn(position);
    }

    public int depth() throws NoSuchElementException {
        return presentDepth();
    }

    public int solve(int slot) throws IndexOutOfBoundsException, NoSuchElementException {
        checkSlot(slot);
        int depth = presentDepth();
        draft.clear();
        int places = present.places();
        for (int left = depth; left > 0; left--) {
            int letter = firstLetterTo(places, left - 1);
            draft.add(letter);
            places = Permutation.then(places, present.effectOfLetter(letter));
        }
        return keepDraft(slot);
    }

    // ---- the puzzle as a whole

    public int countAt(int depth) {
        return currentTable().sizeOfLevel(depth);
    }

    public int reachable() {
        return currentTable().size();
    }

    public int greatestDepth() {
        return currentTable().lastLevel();
    }

    public double averageDepth() {
        DepthTable depths = currentTable();
        int all = depths.size();
        return all > 0 ? (double) depths.sumOfDepths() / (double) all : 0;
    }

    public int orbit(int position) throws IndexOutOfBoundsException {
        checkPosition(position);
        int orbit = 1 << (position - 1);
        // Each round but the last adds a position, so more rounds than positions add nothing.
        for (int round = 1; round < positions; round++) {
            orbit = present.spread(orbit);
        }
        return orbit;
    }

    public int findCommutator(int slot, int moved)
            throws IndexOutOfBoundsException, NoSuchElementException {
        checkSlot(slot);
        if (!search.find(present, moved, draft)) {
            throw new NoSuchElementException("no such commutator");
        }
        return keepDraft(slot);
    }

    // ---- rows

    public int fillShares(int row) throws IndexOutOfBoundsException {
        checkRow(row);
        DepthTable depths = currentTable();
        int all = depths.size();
        for (int depth = 0; all > 0 && depth < ROW_LENGTH; depth++) {
            int count = depths.sizeOfLevel(depth);
            if (row == FLOATS) {
                floats[depth] = (float) count / (float) all;
            } else {
                doubles[depth] = (double) count / (double) all;
            }
        }
        return Math.max(0, depths.lastLevel() + 1 - ROW_LENGTH);
    }

    public int scale(int row, int index, int factor)
            throws IndexOutOfBoundsException, IllegalArgumentException, ArithmeticException {
        checkElement(row, index);
        if (factor < -MOST_FACTOR || factor > MOST_FACTOR) {
            throw new IllegalArgumentException("the factor is not from -1000 to 1000");
        }
        return row == FLOATS ? scaleFloat(index, factor) : scaleDouble(index, factor);
    }

    public double remainder(int row, int index, int divisor)
            throws IndexOutOfBoundsException, ArithmeticException {
        checkElement(row, index);
        if (divisor == 0) {
            throw new ArithmeticException("the divisor is 0");
        }
        // A remainder is exact, so that of two floats can be taken in doubles.
        return row == FLOATS
                ? remainderOf((double) floats[index], (double) (float) divisor)
                : remainderOf(doubles[index], (double) divisor);
    }

    // ---- snapshot

    public void snapshot() {
        saved.copyFrom(present);
        hasSnapshot = true;
    }

    public void restore() throws IllegalStateException {
        if (!hasSnapshot) {
            throw new IllegalStateException("there is no snapshot");
        }
        present.copyFrom(saved);
        tableIsCurrent = false;
    }

    // ---- helpers

    private static void checkMove(int move) {
        if (move < 0 || move >= MOVES) {
            throw new IndexOutOfBoundsException("no such move");
        }
    }

    private static void checkSlot(int slot) {
        if (slot < 0 || slot >= SLOTS) {
            throw new IndexOutOfBoundsException("no such slot");
        }
    }

    private void checkPosition(int position) {
        if (position < 1 || position > positions) {
            throw new IndexOutOfBoundsException("no such position");
        }
    }

    private static void checkRow(int row) {
        if (row != FLOATS && row != DOUBLES) {
            throw new IndexOutOfBoundsException("no such row");
        }
    }

    private static void checkElement(int row, int index) {
        checkRow(row);
        if (index < 0 || index >= ROW_LENGTH) {
            throw new IndexOutOfBoundsException("no such element");
        }
    }

    private int keepDraft(int slot) {
        present.word(slot).copyFrom(draft);
        return draft.length();
    }

    private int tokenOn(int position) {
        return Permutation.imageOf(Permutation.inverseOf(present.places()), position - 1) + 1;
    }

    private DepthTable currentTable() {
        if (!tableIsCurrent) {
            table.build(present, positions);
            tableIsCurrent = true;
        }
        return table;
    }

    private int presentDepth() {
        int depth = currentTable().levelOf(present.places());
        if (depth == DepthTable.UNREACHED) {
            throw new NoSuchElementException("the arrangement is not reachable");
        }
        return depth;
    }

    /** The inverse of each letter is a letter, so one leads nearer unless places are solved. */
    private int firstLetterTo(int places, int depth) {
        for (int letter = 0; letter < LETTERS; letter++) {
            int next = Permutation.then(places, present.effectOfLetter(letter));
            if (present.isDefined(letter / 2) && table.levelOf(next) == depth) {
                return letter;
            }
        }
        return 0;
    }

    private int scaleFloat(int index, int factor) {
        float product = floats[index] * (float) factor;
        float size = product < 0 ? -product : product;
        if (size > MOST_PRODUCT) {
            throw new ArithmeticException("the product is too great");
        }
        floats[index] = product;
        return (int) product;
    }

    private int scaleDouble(int index, int factor) {
        double product = doubles[index] * (double) factor;
        double size = product < 0 ? -product : product;
        if (size > MOST_PRODUCT) {
            throw new ArithmeticException("the product is too great");
        }
        doubles[index] = product;
        return (int) product;
    }

    /**
     * What the operator % yields, which LANGUAGE.md does not leave for doubles. The dividend is at
     * most 1000000 and the divisor a whole number but 0, so all is exact but the division; and that
     * never rounds up to a whole number, since a dividend below a multiple of the divisor is below
     * it by a unit of its last place, which makes more than half a unit in the quotient.
     */
    private static double remainderOf(double dividend, double divisor) {
        double size = dividend < 0 ? -dividend : dividend;
        double step = divisor < 0 ? -divisor : divisor;
        if (size < step) {
            return dividend;
        }
        double rest = size - (double) (int) (size / step) * step;
        return dividend < 0 ? -rest : rest;
    }

    /** Functions of permutations that are held in one int each, as SOLVED is. */
    private static final class Permutation {
        private static final int BITS = 3;
        private static final int MASK = 7;
        /** No permutation of 7 positions has a greater order. */
        private static final int GREATEST_ORDER = 12;

        private Permutation() {
        }

        static int imageOf(int permutation, int index) {
            return (permutation >>> (BITS * index)) & MASK;
        }

        static int withImage(int permutation, int index, int image) {
            return (permutation & ~(MASK << (BITS * index))) | (image << (BITS * index));
        }

        static int then(int first, int second) {
            int result = 0;
            for (int i = 0; i < MOST_POSITIONS; i++) {
                result |= imageOf(second, imageOf(first, i)) << (BITS * i);
            }
            return result;
        }

        static int inverseOf(int permutation) {
            int result = 0;
            for (int i = 0; i < MOST_POSITIONS; i++) {
                result |= i << (BITS * imageOf(permutation, i));
            }
            return result;
        }

        static int differences(int one, int other) {
            int count = 0;
            for (int i = 0; i < MOST_POSITIONS; i++) {
                if (imageOf(one, i) != imageOf(other, i)) {
                    count++;
                }
            }
            return count;
        }

        static int cycleOf(int permutation, int index) {
            int length = 1;
            int at = imageOf(permutation, index);
            while (at != index && length < MOST_POSITIONS) {
                at = imageOf(permutation, at);
                length++;
            }
            return length;
        }

        static int orderOf(int permutation) {
            int times = 1;
            int power = permutation;
            while (power != SOLVED && times < GREATEST_ORDER) {
                power = then(power, permutation);
                times++;
            }
            return times;
        }

        static boolean hasOddParity(int permutation) {
            int seen = 0;
            int inversions = 0;
            for (int i = 0; i < MOST_POSITIONS; i++) {
                int image = imageOf(permutation, i);
                inversions += Integer.bitCount(seen >>> image);
                seen |= 1 << image;
            }
            return (inversions & 1) == 1;
        }

        /**
         * A number for each permutation. Only images with a greater one before them add to it, so
         * the permutations of n positions have the numbers below n!.
         */
        static int rankOf(int permutation) {
            int seen = 0;
            int rank = 0;
            int weight = 1;
            for (int i = 0; i < MOST_POSITIONS; i++) {
                int image = imageOf(permutation, i);
                rank += weight * Integer.bitCount(seen >>> image);
                seen |= 1 << image;
                weight *= i + 1;
            }
            return rank;
        }
    }

    /** The input buffer. */
    private static final class Text {
        private final char[] characters = new char[MOST_CHARACTERS];
        private int length = 0;

        int length() {
            return length;
        }

        char at(int index) {
            return index >= 0 && index < length ? characters[index] : (char) 0;
        }

        boolean add(char character) {
            if (length >= characters.length) {
                return false;
            }
            characters[length] = character;
            length++;
            return true;
        }

        void clear() {
            length = 0;
        }

        static boolean isName(char character) {
            return character >= 'a' && character < 'a' + MOVES;
        }
    }

    /** Reads the cycles of a move. */
    private static final class CycleReader {
        private int effect = SOLVED;
        private int used;
        private int count;
        private int first;
        private int last;
        private boolean open;

        /** Answers the error position, or NO_ERROR; then effect() is the move. */
        int errorIn(Text text, int positions) {
            effect = SOLVED;
            used = 0;
            open = false;
            for (int i = 0; i < text.length(); i++) {
                if (!accepts(text.at(i), positions)) {
                    return i;
                }
            }
            return open ? text.length() : NO_ERROR;
        }

        int effect() {
            return effect;
        }

        private boolean accepts(char character, int positions) {
            if (!open) {
                open = true;
                count = 0;
                return character == '(';
            }
            if (character == ')') {
                open = false;
                effect = Permutation.withImage(effect, last, first);
                return count >= 2;
            }
            return acceptsPosition(character - '1', positions);
        }

        private boolean acceptsPosition(int position, int positions) {
            if (position < 0 || position >= positions || ((used >>> position) & 1) == 1) {
                return false;
            }
            used |= 1 << position;
            if (count == 0) {
                first = position;
            } else {
                effect = Permutation.withImage(effect, last, position);
            }
            last = position;
            count++;
            return true;
        }
    }

    /** Tells where a text stops being a word. */
    private static final class WordChecker {
        private static final int NO_SUFFIX = 0;
        private static final int DIGIT = 1;
        private static final int APOSTROPHE_OR_DIGIT = 2;

        /** What is open: '(', '<', or ',' for a '<' whose comma has come. */
        private final char[] opened = new char[MOST_OPEN];
        private int open;
        private int suffix;

        /** Answers the error position, or NO_ERROR. */
        int errorIn(Text text) {
            open = 0;
            suffix = NO_SUFFIX;
            for (int i = 0; i < text.length(); i++) {
                if (!accepts(text.at(i))) {
                    return i;
                }
            }
            return open > 0 ? text.length() : NO_ERROR;
        }

        private boolean accepts(char character) {
            if (Text.isName(character)) {
                suffix = APOSTROPHE_OR_DIGIT;
                return true;
            }
            if (character == '(' || character == '<') {
                return begins(character);
            }
            if (character == ')') {
                return ends('(');
            }
            if (character == '>') {
                return ends(',');
            }
            if (character == ',') {
                return ends('<') && begins(',');
            }
            if (character == '\'') {
                boolean fits = suffix == APOSTROPHE_OR_DIGIT;
                suffix = DIGIT;
                return fits;
            }
            boolean fits = suffix != NO_SUFFIX && character >= '2' && character <= '9';
            suffix = NO_SUFFIX;
            return fits;
        }

        private boolean begins(char character) {
            if (open < 0 || open >= opened.length) {
                return false;
            }
            opened[open] = character;
            open++;
            suffix = NO_SUFFIX;
            return true;
        }

        private boolean ends(char character) {
            if (open <= 0 || open > opened.length || opened[open - 1] != character) {
                return false;
            }
            open--;
            suffix = APOSTROPHE_OR_DIGIT;
            return true;
        }
    }

    /**
     * Writes out the letters of a text in which WordChecker found no error. The letters of each
     * element stand together at the end of the word when the element ends.
     */
    private static final class WordWriter {
        private final int[] starts = new int[MOST_OPEN];
        /** Where the second word of an open '<' starts. */
        private final int[] middles = new int[MOST_OPEN];
        private int open;
        private int lastElement;

        /**
         * Answers whether the word has room for all letters. No character takes letters away, so
         * the first that does not fit decides.
         */
        boolean write(Text text, Word word) {
            word.clear();
            open = 0;
            lastElement = 0;
            boolean fits = true;
            for (int i = 0; fits && i < text.length(); i++) {
                fits = writeNext(text.at(i), word);
            }
            return fits;
        }

        private boolean writeNext(char character, Word word) {
            if (Text.isName(character)) {
                lastElement = word.length();
                return word.add(2 * (character - 'a'));
            }
            if (character == '(' || character == '<') {
                return begin(word.length());
            }
            if (character == ',') {
                return divide(word.length());
            }
            if (character == ')' || character == '>') {
                return end(character == '>', word);
            }
            if (character == '\'') {
                word.invertFrom(lastElement);
                return true;
            }
            return word.repeatFrom(lastElement, character - '0');
        }

        private boolean begin(int start) {
            if (open < 0 || open >= starts.length) {
                return false;
            }
            starts[open] = start;
            open++;
            return true;
        }

        private boolean divide(int middle) {
            if (open <= 0 || open > middles.length) {
                return false;
            }
            middles[open - 1] = middle;
            return true;
        }

        private boolean end(boolean isCommutator, Word word) {
            if (open <= 0 || open > starts.length) {
                return false;
            }
            open--;
            lastElement = starts[open];
            return !isCommutator || word.closeCommutator(starts[open], middles[open]);
        }
    }

    /** A word: its letters by their numbers, of which those of inverses are odd. */
    private static final class Word {
        private final int[] letters = new int[MOST_LETTERS];
        private int length = 0;

        int length() {
            return length;
        }

        int at(int index) {
            return index >= 0 && index < length ? letters[index] : 0;
        }

        void clear() {
            length = 0;
        }

        void copyFrom(Word other) {
            length = 0;
            addAll(other);
        }

        /** This and the methods below that answer a boolean tell whether there was room. */
        boolean add(int letter) {
            if (length >= letters.length) {
                return false;
            }
            letters[length] = letter;
            length++;
            return true;
        }

        boolean addAll(Word other) {
            return addPart(other, 0, other.length());
        }

        boolean addInverseOf(Word other) {
            return addInverseOfPart(other, 0, other.length());
        }

        boolean repeatFrom(int start, int times) {
            int end = length;
            boolean fits = true;
            for (int i = 1; fits && i < times; i++) {
                fits = addPart(this, start, end);
            }
            return fits;
        }

        /** Adds the inverses of u and v, of which this word ends with the letters. */
        boolean closeCommutator(int startOfU, int startOfV) {
            int end = length;
            return addInverseOfPart(this, startOfU, startOfV)
                    && addInverseOfPart(this, startOfV, end);
        }

        void invertFrom(int start) {
            if (start < 0) {
                return;
            }
            int right = length - 1;
            for (int left = start; left <= right; left++) {
                int inverse = letters[right] ^ 1;
                letters[right] = letters[left] ^ 1;
                letters[left] = inverse;
                right--;
            }
        }

        private boolean addPart(Word other, int start, int end) {
            boolean fits = true;
            for (int i = start; fits && i < end; i++) {
                fits = add(other.at(i));
            }
            return fits;
        }

        private boolean addInverseOfPart(Word other, int start, int end) {
            boolean fits = true;
            for (int i = end - 1; fits && i >= start; i--) {
                fits = add(other.at(i) ^ 1);
            }
            return fits;
        }
    }

    /** The moves, the words and the arrangement: what a snapshot holds. */
    private static final class Situation {
        /** By letters; the letters of an undefined move move nothing. */
        private final int[] effects = new int[LETTERS];
        private final Word[] words = new Word[SLOTS];
        private int definedMoves = 0;
        /** Where each token is: so a letter's effect on it is that on an arrangement. */
        private int places = SOLVED;

        Situation() {
            for (int i = 0; i < SLOTS; i++) {
                words[i] = new Word();
            }
            clear();
        }

        void clear() {
            for (int i = 0; i < LETTERS; i++) {
                effects[i] = SOLVED;
            }
            definedMoves = 0;
            places = SOLVED;
            for (int i = 0; i < SLOTS; i++) {
                words[i].clear();
            }
        }

        void copyFrom(Situation other) {
            for (int i = 0; i < LETTERS; i++) {
                effects[i] = other.effects[i];
            }
            definedMoves = other.definedMoves;
            places = other.places;
            for (int i = 0; i < SLOTS; i++) {
                words[i].copyFrom(other.words[i]);
            }
        }

        int places() {
            return places;
        }

        void arrange(int newPlaces) {
            places = newPlaces;
        }

        Word word(int slot) {
            return words[slot >= 0 && slot < SLOTS ? slot : 0];
        }

        boolean isDefined(int move) {
            return ((definedMoves >>> move) & 1) == 1;
        }

        void defineMove(int move, int effect) {
            if (move < 0 || move >= MOVES) {
                return;
            }
            effects[2 * move] = effect;
            effects[2 * move + 1] = Permutation.inverseOf(effect);
            definedMoves |= 1 << move;
        }

        boolean definesNamesIn(Text text) {
            for (int i = 0; i < text.length(); i++) {
                char character = text.at(i);
                if (Text.isName(character) && !isDefined(character - 'a')) {
                    return false;
                }
            }
            return true;
        }

        int effectOfLetter(int letter) {
            return letter >= 0 && letter < LETTERS ? effects[letter] : SOLVED;
        }

        int effectOfWord(int slot) {
            Word word = word(slot);
            int effect = SOLVED;
            for (int i = 0; i < word.length(); i++) {
                effect = Permutation.then(effect, effectOfLetter(word.at(i)));
            }
            return effect;
        }

        /** Adds to a set of positions those to which one letter takes tokens from them. */
        int spread(int set) {
            int wider = set;
            for (int letter = 0; letter < LETTERS; letter++) {
                for (int i = 0; i < MOST_POSITIONS; i++) {
                    if (((set >>> i) & 1) == 1) {
                        wider |= 1 << Permutation.imageOf(effects[letter], i);
                    }
                }
            }
            return wider;
        }
    }

    /** All reachable arrangements, level by level: those with the same depth make a level. */
    private static final class DepthTable {
        static final int UNREACHED = -1;

        /** By the ranks of the arrangements. */
        private final int[] levels = new int[MOST_ARRANGEMENTS];
        /** In the order of their depths, the first size of them. */
        private final int[] arrangements = new int[MOST_ARRANGEMENTS];
        /** One more than there are levels, so that the end of each can be looked up; 0 at first. */
        private final int[] levelStarts = new int[MOST_ARRANGEMENTS + 1];
        private final int[] turns = new int[LETTERS];
        private int turnCount = 0;
        private int size = 0;
        private int lastLevel = 0;

        void build(Situation situation, int positions) {
            listTurns(situation);
            int all = clear(positions);
            reach(SOLVED, 0);
            int start = 0;
            for (int level = 0; level < MOST_ARRANGEMENTS && start < size; level++) {
                int end = size;
                for (int i = start; i < end && size < all; i++) {
                    for (int turn = 0; turn < turnCount; turn++) {
                        reach(Permutation.then(arrangements[i], turns[turn]), level + 1);
                    }
                }
                levelStarts[level + 1] = end;
                lastLevel = level;
                start = end;
            }
        }

        int levelOf(int arrangement) {
            int rank = Permutation.rankOf(arrangement);
            return rank >= 0 && rank < levels.length ? levels[rank] : UNREACHED;
        }

        int size() {
            return size;
        }

        int lastLevel() {
            return lastLevel;
        }

        int sizeOfLevel(int level) {
            return level >= 0 && level <= lastLevel
                    ? levelStarts[level + 1] - levelStarts[level]
                    : 0;
        }

        int sumOfDepths() {
            int sum = 0;
            for (int level = 1; level <= lastLevel; level++) {
                sum += level * sizeOfLevel(level);
            }
            return sum;
        }

        /** Letters that move nothing, or the same as an earlier one, reach nothing new. */
        private void listTurns(Situation situation) {
            turnCount = 0;
            for (int letter = 0; letter < LETTERS && turnCount < turns.length; letter++) {
                int turn = situation.effectOfLetter(letter);
                if (turn != SOLVED && !isListed(turn)) {
                    turns[turnCount] = turn;
                    turnCount++;
                }
            }
        }

        private boolean isListed(int turn) {
            for (int i = 0; i < turnCount; i++) {
                if (turns[i] == turn) {
                    return true;
                }
            }
            return false;
        }

        /** Answers the number of all arrangements, whose ranks are below it. */
        private int clear(int positions) {
            int all = 1;
            for (int i = 2; i <= positions && i <= MOST_POSITIONS; i++) {
                all *= i;
            }
            for (int rank = 0; rank < all && rank < levels.length; rank++) {
                levels[rank] = UNREACHED;
            }
            size = 0;
            return all;
        }

        private void reach(int arrangement, int level) {
            int rank = Permutation.rankOf(arrangement);
            if (rank < 0 || rank >= levels.length || size >= arrangements.length) {
                return;
            }
            if (levels[rank] == UNREACHED) {
                levels[rank] = level;
                arrangements[size] = arrangement;
                size++;
            }
        }
    }

    /** Tries pairs of words with 1 or 2 letters for their commutators. */
    private static final class CommutatorSearch {
        private final int[] letters = new int[LETTERS];
        /** The effects of all words with 1 letter, then of those with 2, each in their order. */
        private final int[] effects = new int[LETTERS + LETTERS * LETTERS];
        private int letterCount = 0;
        private int foundU = 0;
        private int foundV = 0;

        /** Answers whether there is such a commutator, which is then in the result. */
        boolean find(Situation situation, int moved, Word result) {
            if (moved < 0 || moved > MOST_POSITIONS) {
                return false;
            }
            listWords(situation);
            boolean found = findAmong(1, 1, moved)
                    || findAmong(1, 2, moved)
                    || findAmong(2, 1, moved)
                    || findAmong(2, 2, moved);
            if (found) {
                result.clear();
                writeWord(foundU, result);
                int startOfV = result.length();
                writeWord(foundV, result);
                result.closeCommutator(0, startOfV);
            }
            return found;
        }

        private void listWords(Situation situation) {
            letterCount = 0;
            for (int letter = 0; letter < LETTERS && letterCount < letters.length; letter++) {
                if (situation.isDefined(letter / 2)) {
                    letters[letterCount] = letter;
                    effects[letterCount] = situation.effectOfLetter(letter);
                    letterCount++;
                }
            }
            int next = letterCount;
            for (int first = 0; first < letterCount; first++) {
                for (int second = 0; second < letterCount && next < effects.length; second++) {
                    effects[next] = Permutation.then(effects[first], effects[second]);
                    next++;
                }
            }
        }

        private boolean findAmong(int lengthOfU, int lengthOfV, int moved) {
            for (int u = startOf(lengthOfU); u < startOf(lengthOfU + 1); u++) {
                for (int v = startOf(lengthOfV); v < startOf(lengthOfV + 1); v++) {
                    if (movedBy(effects[u], effects[v]) == moved) {
                        foundU = u;
                        foundV = v;
                        return true;
                    }
                }
            }
            return false;
        }

        /** Where the words of a length start among the effects. */
        private int startOf(int length) {
            if (length == 1) {
                return 0;
            }
            return length == 2 ? letterCount : letterCount + letterCount * letterCount;
        }

        /** A commutator takes a token back just if u then v and v then u take it to one place. */
        private static int movedBy(int u, int v) {
            int count = 0;
            for (int i = 0; i < MOST_POSITIONS; i++) {
                int byUThenV = Permutation.imageOf(v, Permutation.imageOf(u, i));
                int byVThenU = Permutation.imageOf(u, Permutation.imageOf(v, i));
                if (byUThenV != byVThenU) {
                    count++;
                }
            }
            return count;
        }

        private void writeWord(int word, Word result) {
            if (word >= 0 && word < letterCount) {
                result.add(letters[word]);
            } else if (letterCount > 0 && word >= letterCount && word < startOf(3)) {
                int pair = word - letterCount;
                result.add(letters[pair / letterCount]);
                result.add(letters[pair % letterCount]);
            }
        }
    }
}
