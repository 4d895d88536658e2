import java.util.ArrayDeque;
import java.util.ArrayList;
import java.util.Arrays;
import java.util.Collections;
import java.util.Comparator;
import java.util.HashMap;
import java.util.HashSet;
import java.util.List;
import java.util.Map;
import java.util.NoSuchElementException;
import java.util.Set;

/**
 * The document once more, in the slowest and plainest way and by other means than the class: lists
 * of tokens by position, a grammar that parses whole texts, completions tried one by one for error
 * positions, and the operator %. Its methods bear the names of the class's.
 */
final class Model {
    private int n = 3;
    private String buffer = "";
    private int error = -1;
    private List<List<Integer>> moves = new ArrayList<>(Collections.nCopies(5, null));
    private List<List<Integer>> words = new ArrayList<>(Collections.nCopies(4, List.of()));
    private List<Integer> tokens = solved();
    private List<List<Integer>> savedMoves = null;
    private List<List<Integer>> savedWords = null;
    private List<Integer> savedTokens = null;
    private final float[] floats = new float[24];
    private final double[] doubles = new double[24];
    private Map<List<Integer>, Integer> depths = null;

    private List<Integer> solved() {
        List<Integer> result = new ArrayList<>();
        for (int i = 1; i <= n; i++) {
            result.add(i);
        }
        return result;
    }

    public int reset(int positions) {
        if (positions < 2 || positions > 7) {
            throw new IllegalArgumentException();
        }
        int previous = n;
        n = positions;
        moves = new ArrayList<>(Collections.nCopies(5, null));
        words = new ArrayList<>(Collections.nCopies(4, List.of()));
        tokens = solved();
        savedMoves = null;
        depths = null;
        return previous;
    }

    public int positions() {
        return n;
    }

    public int append(char character) {
        if (character < 32 || character > 126) {
            throw new IllegalArgumentException();
        }
        if (buffer.length() == 40) {
            throw new IllegalStateException();
        }
        buffer += character;
        return buffer.length();
    }

    // ---- texts

    /** A position that any cycle can take, for completions; the buffer never holds its code. */
    private static final char FRESH = 127;

    private boolean areCycles(String text) {
        Set<Character> seen = new HashSet<>();
        for (char c : text.toCharArray()) {
            if (Character.isDigit(c) && (!seen.add(c) || c < '1' || c > '0' + n)) {
                return false;
            }
        }
        return text.matches("(\\([0-9" + FRESH + "]{2,}\\))*");
    }

    private int errorInCycles(String text) {
        if (areCycles(text)) {
            return -1;
        }
        for (int end = 1; end <= text.length(); end++) {
            String prefix = text.substring(0, end);
            if (!areCycles(prefix) && !areCycles(prefix + ")")
                    && !areCycles(prefix + FRESH + ")")
                    && !areCycles(prefix + FRESH + FRESH + ")")) {
                return end - 1;
            }
        }
        return text.length();
    }

    /** A parser of whole texts, which answers null where there is no word. */
    private static final class Parser {
        private final String text;
        private int at = 0;
        private int open = 0;

        Parser(String text) {
            this.text = text;
        }

        static List<Integer> parse(String text) {
            Parser parser = new Parser(text);
            List<Integer> word = parser.word();
            return word != null && parser.at == text.length() ? word : null;
        }

        private char next() {
            return at < text.length() ? text.charAt(at) : 0;
        }

        private boolean take(char character) {
            if (next() != character) {
                return false;
            }
            at++;
            return true;
        }

        private List<Integer> word() {
            List<Integer> word = new ArrayList<>();
            while (next() != 0 && "abcde(<".indexOf(next()) >= 0) {
                List<Integer> element = element();
                if (element == null) {
                    return null;
                }
                if (take('\'')) {
                    element = inverse(element);
                }
                int times = 1;
                if (next() >= '2' && next() <= '9') {
                    times = next() - '0';
                    at++;
                }
                for (int i = 0; i < times && word.size() <= 1000; i++) {
                    word.addAll(element);
                }
            }
            return word;
        }

        private List<Integer> element() {
            if (next() >= 'a' && next() <= 'e') {
                int letter = 2 * (next() - 'a');
                at++;
                return List.of(letter);
            }
            if (++open > 6) {
                return null;
            }
            boolean round = take('(');
            if (!round) {
                take('<');
            }
            List<Integer> u = word();
            if (u == null) {
                return null;
            }
            List<Integer> result = u;
            if (!round) {
                if (!take(',')) {
                    return null;
                }
                List<Integer> v = word();
                if (v == null) {
                    return null;
                }
                result = join(u, v, inverse(u), inverse(v));
            }
            if (!take(round ? ')' : '>')) {
                return null;
            }
            open--;
            return result;
        }
    }

    private static boolean canBeCompleted(String prefix, int closers) {
        if (Parser.parse(prefix) != null) {
            return true;
        }
        return closers > 0 && (canBeCompleted(prefix + ")", closers - 1)
                || canBeCompleted(prefix + ">", closers - 1)
                || canBeCompleted(prefix + ",>", closers - 1));
    }

    private static int errorInWord(String text) {
        if (Parser.parse(text) != null) {
            return -1;
        }
        for (int end = 1; end <= text.length(); end++) {
            if (!canBeCompleted(text.substring(0, end), 6)) {
                return end - 1;
            }
        }
        return text.length();
    }

    public int define(int move) {
        index(move, 5);
        String text = buffer;
        buffer = "";
        int at = errorInCycles(text);
        if (at >= 0) {
            error = at;
            throw new IllegalArgumentException();
        }
        List<Integer> targets = solved();
        for (String cycle : text.replace("(", "").split("\\)")) {
            for (int i = 0; i < cycle.length(); i++) {
                int from = cycle.charAt(i) - '0';
                targets.set(from - 1, cycle.charAt((i + 1) % cycle.length()) - '0');
            }
        }
        moves.set(move, targets);
        depths = null;
        return differences(targets, solved());
    }

    public int store(int slot) {
        index(slot, 4);
        String text = buffer;
        buffer = "";
        int at = errorInWord(text);
        if (at >= 0) {
            error = at;
            throw new IllegalArgumentException();
        }
        for (char c = 'a'; c <= 'e'; c++) {
            if (text.indexOf(c) >= 0 && moves.get(c - 'a') == null) {
                throw new IllegalStateException();
            }
        }
        return keep(slot, Parser.parse(text));
    }

    public int errorPosition() {
        if (error < 0) {
            throw new NoSuchElementException();
        }
        return error;
    }

    public int target(int move, int position) {
        index(move, 5);
        index(position - 1, n);
        if (moves.get(move) == null) {
            throw new NoSuchElementException();
        }
        return moves.get(move).get(position - 1);
    }

    // ---- words

    public int wordLength(int slot) {
        index(slot, 4);
        return words.get(slot).size();
    }

    public int letter(int slot, int index) {
        index(slot, 4);
        index(index, words.get(slot).size());
        return words.get(slot).get(index);
    }

    public int invert(int target, int slot) {
        index(target, 4);
        index(slot, 4);
        return keep(target, inverse(words.get(slot)));
    }

    public int conjugate(int target, int u, int v) {
        index(target, 4);
        index(u, 4);
        index(v, 4);
        return keep(target, join(inverse(words.get(v)), words.get(u), words.get(v)));
    }

    public int commutator(int target, int u, int v) {
        index(target, 4);
        index(u, 4);
        index(v, 4);
        List<Integer> one = words.get(u);
        List<Integer> other = words.get(v);
        return keep(target, join(one, other, inverse(one), inverse(other)));
    }

    public int order(int slot) {
        index(slot, 4);
        int times = 1;
        List<Integer> now = after(solved(), words.get(slot));
        while (!now.equals(solved())) {
            now = after(now, words.get(slot));
            times++;
        }
        return times;
    }

    public boolean isOdd(int slot) {
        index(slot, 4);
        List<Integer> now = after(solved(), words.get(slot));
        boolean odd = false;
        for (int i = 0; i < n; i++) {
            for (int j = 0; j < i; j++) {
                odd ^= now.get(j) > now.get(i);
            }
        }
        return odd;
    }

    public int cycleLength(int slot, int position) {
        index(slot, 4);
        index(position - 1, n);
        int times = 1;
        List<Integer> now = after(solved(), words.get(slot));
        while (now.get(position - 1) != position) {
            now = after(now, words.get(slot));
            times++;
        }
        return times;
    }

    public boolean isSame(int one, int other) {
        index(one, 4);
        index(other, 4);
        return after(solved(), words.get(one)).equals(after(solved(), words.get(other)));
    }

    // ---- arrangements

    public int perform(int slot, int times) {
        index(slot, 4);
        if (times < -100 || times > 100) {
            throw new IllegalArgumentException();
        }
        List<Integer> before = tokens;
        for (int i = 0; i < Math.abs(times); i++) {
            tokens = after(tokens, times < 0 ? inverse(words.get(slot)) : words.get(slot));
        }
        return differences(before, tokens);
    }

    public int exchange(int one, int other) {
        index(one - 1, n);
        index(other - 1, n);
        tokens = new ArrayList<>(tokens);
        Collections.swap(tokens, one - 1, other - 1);
        return tokens.get(one - 1);
    }

    public int token(int position) {
        index(position - 1, n);
        return tokens.get(position - 1);
    }

    public int depth() {
        Integer depth = depths().get(tokens);
        if (depth == null) {
            throw new NoSuchElementException();
        }
        return depth;
    }

    /** The first word that a search by length, then by letters, meets. */
    public int solve(int slot) {
        index(slot, 4);
        depth();
        Map<List<Integer>, List<Integer>> ways = new HashMap<>();
        ArrayDeque<List<Integer>> queue = new ArrayDeque<>();
        ways.put(tokens, List.of());
        queue.add(tokens);
        while (!ways.containsKey(solved())) {
            List<Integer> from = queue.remove();
            for (int letter : letters()) {
                List<Integer> to = after(from, List.of(letter));
                if (!ways.containsKey(to)) {
                    ways.put(to, join(ways.get(from), List.of(letter)));
                    queue.add(to);
                }
            }
        }
        return keep(slot, ways.get(solved()));
    }

    // ---- the puzzle as a whole

    public int countAt(int depth) {
        return Collections.frequency(depths().values(), depth);
    }

    public int reachable() {
        return depths().size();
    }

    public int greatestDepth() {
        return Collections.max(depths().values());
    }

    public double averageDepth() {
        int sum = 0;
        for (int depth : depths().values()) {
            sum += depth;
        }
        return (double) sum / depths().size();
    }

    /** Where the token of the position is in all arrangements that can be reached. */
    public int orbit(int position) {
        index(position - 1, n);
        int orbit = 0;
        for (List<Integer> arrangement : depths().keySet()) {
            orbit |= 1 << arrangement.indexOf(position);
        }
        return orbit;
    }

    public int findCommutator(int slot, int moved) {
        index(slot, 4);
        List<List<Integer>> tried = new ArrayList<>();
        for (int one : letters()) {
            tried.add(List.of(one));
            for (int other : letters()) {
                tried.add(List.of(one, other));
            }
        }
        List<List<List<Integer>>> pairs = new ArrayList<>();
        for (List<Integer> u : tried) {
            for (List<Integer> v : tried) {
                if (differences(solved(), after(solved(), join(u, v, inverse(u), inverse(v))))
                        == moved) {
                    pairs.add(List.of(u, v));
                }
            }
        }
        Comparator<List<List<Integer>>> order = Comparator
                .<List<List<Integer>>>comparingInt(p -> p.get(0).size() + p.get(1).size())
                .thenComparingInt(p -> p.get(0).size())
                .thenComparing(p -> p.get(0), Model::compareWords)
                .thenComparing(p -> p.get(1), Model::compareWords);
        if (pairs.isEmpty()) {
            throw new NoSuchElementException();
        }
        List<List<Integer>> first = Collections.min(pairs, order);
        return keep(slot, join(first.get(0), first.get(1), inverse(first.get(0)),
                inverse(first.get(1))));
    }

    // ---- rows

    public int fillShares(int row) {
        index(row, 2);
        for (int i = 0; i < 24; i++) {
            if (row == 0) {
                floats[i] = (float) countAt(i) / (float) reachable();
            } else {
                doubles[i] = (double) countAt(i) / (double) reachable();
            }
        }
        Set<Integer> left = new HashSet<>(depths().values());
        left.removeIf(depth -> depth < 24);
        return left.size();
    }

    public int scale(int row, int index, int factor) {
        index(row, 2);
        index(index, 24);
        if (factor < -1000 || factor > 1000) {
            throw new IllegalArgumentException();
        }
        if (row == 0) {
            float product = floats[index] * (float) factor;
            if (Math.abs(product) > 1000000f) {
                throw new ArithmeticException();
            }
            floats[index] = product;
            return (int) product;
        }
        double product = doubles[index] * (double) factor;
        if (Math.abs(product) > 1000000.0) {
            throw new ArithmeticException();
        }
        doubles[index] = product;
        return (int) product;
    }

    public double remainder(int row, int index, int divisor) {
        index(row, 2);
        index(index, 24);
        if (divisor == 0) {
            throw new ArithmeticException();
        }
        return row == 0 ? (double) (floats[index] % (float) divisor) : doubles[index] % divisor;
    }

    // ---- snapshot

    public void snapshot() {
        savedMoves = new ArrayList<>(moves);
        savedWords = new ArrayList<>(words);
        savedTokens = tokens;
    }

    public void restore() {
        if (savedMoves == null) {
            throw new IllegalStateException();
        }
        moves = new ArrayList<>(savedMoves);
        words = new ArrayList<>(savedWords);
        tokens = savedTokens;
        depths = null;
    }

    // ---- helpers

    private static void index(int index, int end) {
        if (index < 0 || index >= end) {
            throw new IndexOutOfBoundsException();
        }
    }

    private int keep(int slot, List<Integer> word) {
        if (word.size() > 200) {
            throw new ArithmeticException();
        }
        words.set(slot, word);
        return word.size();
    }

    private static int compareWords(List<Integer> one, List<Integer> other) {
        for (int i = 0; i < one.size() && i < other.size(); i++) {
            if (!one.get(i).equals(other.get(i))) {
                return Integer.compare(one.get(i), other.get(i));
            }
        }
        return 0;
    }

    private static List<Integer> inverse(List<Integer> word) {
        List<Integer> result = new ArrayList<>();
        for (int letter : word) {
            result.add(0, letter % 2 == 0 ? letter + 1 : letter - 1);
        }
        return result;
    }

    @SafeVarargs
    private static List<Integer> join(List<Integer>... parts) {
        List<Integer> result = new ArrayList<>();
        for (List<Integer> part : parts) {
            result.addAll(part);
        }
        return result;
    }

    private List<Integer> letters() {
        List<Integer> result = new ArrayList<>();
        for (int move = 0; move < 5; move++) {
            if (moves.get(move) != null) {
                result.addAll(Arrays.asList(2 * move, 2 * move + 1));
            }
        }
        return result;
    }

    /** The arrangement that a word makes of one. */
    private List<Integer> after(List<Integer> arrangement, List<Integer> word) {
        List<Integer> now = arrangement;
        for (int letter : word) {
            List<Integer> targets = moves.get(letter / 2);
            List<Integer> next = new ArrayList<>(now);
            for (int i = 0; i < n; i++) {
                int to = targets.get(i) - 1;
                if (letter % 2 == 0) {
                    next.set(to, now.get(i));
                } else {
                    next.set(i, now.get(to));
                }
            }
            now = next;
        }
        return now;
    }

    private static int differences(List<Integer> one, List<Integer> other) {
        int count = 0;
        for (int i = 0; i < one.size(); i++) {
            if (!one.get(i).equals(other.get(i))) {
                count++;
            }
        }
        return count;
    }

    private Map<List<Integer>, Integer> depths() {
        if (depths == null) {
            depths = new HashMap<>();
            ArrayDeque<List<Integer>> queue = new ArrayDeque<>();
            depths.put(solved(), 0);
            queue.add(solved());
            while (!queue.isEmpty()) {
                List<Integer> from = queue.remove();
                for (int letter : letters()) {
                    List<Integer> to = after(from, List.of(letter));
                    if (!depths.containsKey(to)) {
                        depths.put(to, depths.get(from) + 1);
                        queue.add(to);
                    }
                }
            }
        }
        return depths;
    }
}
