import java.util.ArrayDeque;
import java.util.ArrayList;
import java.util.Deque;
import java.util.HashMap;
import java.util.HashSet;
import java.util.List;
import java.util.Map;
import java.util.Set;
import java.util.TreeSet;

/** The document once more, as plainly as can be: sets of pairs, blocks gone through one by one, texts by exceptions. */
final class Model {
    private static final int NONE = -1;

    private static final class Fault extends RuntimeException {
        private static final long serialVersionUID = 1L;
        final int kind;
        final int place;

        Fault(int kind, int place) {
            this.kind = kind;
            this.place = place;
        }
    }

    private interface Worth {
        int of(int row, int column, int many);
    }

    private interface Derived {
        Set<Integer> now();
    }

    private record Token(String text, int place, boolean good) {
        boolean isNumber() {
            return good && !text.isEmpty() && Character.isDigit(text.charAt(0));
        }

        boolean isWord() {
            return good && !text.isEmpty() && Character.isLowerCase(text.charAt(0));
        }
    }

    private static final Set<String> RESERVED = Set.of("levels", "rel", "has", "is", "keep", "drift", "draw", "or", "less",
        "and", "then", "back", "same", "all", "not", "row", "column", "many");

    /** All that a STORE tells; a pair is 100 times its row and its column. */
    private static final class Told {
        int levels = 3;
        int drift;
        int draw;
        int units;
        Worth keep = (row, column, many) -> 1;
        final List<String> names = new ArrayList<>();
        final List<Set<Integer>> pairs = new ArrayList<>();
        final List<Derived> derived = new ArrayList<>();
    }

    private record State(List<Set<Integer>> pairs, int seed) { }

    private record Seen(int level, int block, int many, boolean is, int told, int untold) { }

    final StringBuilder tape = new StringBuilder();
    private int fault;
    private int place = NONE;
    private Told told = new Told();
    private List<Set<Integer>> now = new ArrayList<>();
    private int seed;
    private final Deque<State> undone = new ArrayDeque<>();
    private final Deque<State> done = new ArrayDeque<>();
    private final State[] boxes = new State[3];
    private List<Integer> lying = new ArrayList<>();
    private final List<Seen> sightings = new ArrayList<>();
    private int time;
    private Set<Integer> first = new HashSet<>();

    // ---- the text

    private List<Token> tokens;
    private int at;
    private Told draft;
    private int leaves;
    private final Set<String> lines = new HashSet<>();

    int feed(int... numbers) {
        if (tape.length() + 20 > 1600) {
            return NONE;
        }
        for (int number : numbers) {
            for (int i = 3; i >= 0; i--) {
                tape.append((char) (number >>> 8 * i & 255));
            }
        }
        return tape.length();
    }

    int end(int n) {
        if (n < 0 || n > tape.length()) {
            return NONE;
        }
        tape.setLength(n);
        return n;
    }

    int store() {
        String text = tape.toString();
        tape.setLength(0);
        fault = 0;
        place = NONE;
        try {
            parse(text);
        } catch (Fault found) {
            fault = found.kind;
            place = found.place;
            return NONE;
        }
        told = draft;
        now = copy(told.pairs);
        seed = told.draw;
        undone.clear();
        done.clear();
        for (int i = 0; i < 3; i++) {
            boxes[i] = null;
        }
        lying = new ArrayList<>();
        sightings.clear();
        first = told.names.isEmpty() ? new HashSet<>() : new HashSet<>(get(0));
        return told.names.size();
    }

    int fault(int what) {
        return what == 0 ? fault : what == 1 ? place : NONE;
    }

    private static List<Token> cut(String text) {
        List<Token> all = new ArrayList<>();
        int i = 0;
        while (i < text.length()) {
            String rest = text.substring(i);
            String token;
            if (rest.matches("(?s)[ \\n].*")) {
                i++;
                continue;
            } else if (rest.matches("(?s)[a-z].*")) {
                token = rest.replaceFirst("(?s)^([a-z]+).*", "$1");
                all.add(new Token(token, i, token.length() <= 8));
            } else if (rest.matches("(?s)[0-9].*")) {
                token = rest.replaceFirst("(?s)^([0-9]+).*", "$1");
                boolean letter = rest.matches("(?s)[0-9]+[a-z].*");
                all.add(new Token(token, i, token.length() <= 4 && !letter));
            } else {
                token = rest.substring(0, 1);
                all.add(new Token(token, i, ";()<>=+-*/%".contains(token)));
            }
            i += token.length();
        }
        all.add(new Token("", text.length(), true));
        return all;
    }

    private Token peek() {
        Token token = tokens.get(at);
        if (!token.good) {
            throw new Fault(1, token.place);
        }
        return token;
    }

    private Fault wrong(int kind) {
        return new Fault(kind, peek().place);
    }

    private boolean sees(String text) {
        return peek().text.equals(text);
    }

    private boolean skip(String text) {
        if (sees(text)) {
            at++;
            return true;
        }
        return false;
    }

    private void need(String text) {
        if (!skip(text)) {
            throw wrong(2);
        }
    }

    private int number(int least, int most) {
        if (!peek().isNumber()) {
            throw wrong(2);
        }
        int value = Integer.parseInt(peek().text);
        if (value < least || value > most) {
            throw wrong(4);
        }
        at++;
        return value;
    }

    private void parse(String text) {
        tokens = cut(text);
        at = 0;
        leaves = 0;
        draft = new Told();
        lines.clear();
        while (!sees("")) {
            line();
            need(";");
        }
    }

    private void line() {
        String word = peek().text;
        boolean known = Set.of("levels", "rel", "keep", "drift", "draw").contains(word);
        boolean late = word.equals("levels") && !draft.names.isEmpty();
        boolean full = word.equals("rel") && draft.names.size() == 5;
        if (!known || late || full || !word.equals("rel") && !lines.add(word)) {
            throw wrong(2);
        }
        at++;
        switch (word) {
            case "levels" -> draft.levels = number(1, 4);
            case "drift" -> draft.drift = number(0, 100);
            case "draw" -> draft.draw = number(0, 999);
            case "keep" -> draft.keep = or(0);
            default -> rel();
        }
    }

    private void rel() {
        if (!peek().isWord() || RESERVED.contains(peek().text)) {
            throw wrong(2);
        }
        String name = peek().text;
        if (draft.names.contains(name)) {
            throw wrong(3);
        }
        at++;
        Set<Integer> pairs = null;
        Derived derived = null;
        if (skip("has")) {
            pairs = new HashSet<>();
            int size = 1 << draft.levels;
            for (int many = 0; peek().isNumber(); many++) {
                if (many == 40) {
                    throw wrong(2);
                }
                int row = number(0, size - 1);
                pairs.add(100 * row + number(0, size - 1));
            }
        } else {
            need("is");
            derived = union(0);
        }
        draft.names.add(name);
        draft.pairs.add(pairs);
        draft.derived.add(derived);
    }

    private Derived union(int others) {
        Derived left = meet(others);
        while (sees("or") || sees("less")) {
            int how = sees("or") ? 0 : 2;
            at++;
            Derived one = left;
            Derived other = meet(others);
            left = () -> join(how, one.now(), other.now());
        }
        return left;
    }

    private Derived meet(int others) {
        Derived left = single(others);
        while (sees("and") || sees("then")) {
            int how = sees("and") ? 1 : 3;
            at++;
            Derived one = left;
            Derived other = single(others);
            left = () -> join(how, one.now(), other.now());
        }
        return left;
    }

    private Derived single(int others) {
        if (others == 6) {
            throw wrong(2);
        }
        if (skip("back")) {
            Derived other = single(others + 1);
            return () -> turnedRound(other.now());
        }
        if (skip("(")) {
            Derived inner = union(others + 1);
            need(")");
            return inner;
        }
        String word = peek().text;
        boolean can = peek().isWord() && (!RESERVED.contains(word) || word.equals("same") || word.equals("all"));
        if (!can || leaves == 30) {
            throw wrong(2);
        }
        int rel = draft.names.indexOf(word);
        if (!RESERVED.contains(word) && rel < 0) {
            throw wrong(5);
        }
        leaves++;
        at++;
        return word.equals("same") ? () -> square(true) : word.equals("all") ? () -> square(false) : () -> get(rel);
    }

    private Set<Integer> square(boolean same) {
        Set<Integer> all = new HashSet<>();
        for (int row = 0; row < size(); row++) {
            for (int column = 0; column < size(); column++) {
                if (!same || row == column) {
                    all.add(100 * row + column);
                }
            }
        }
        return all;
    }

    private Worth or(int others) {
        Worth left = and(others);
        while (skip("or")) {
            Worth one = left;
            Worth other = and(others);
            left = (r, c, m) -> one.of(r, c, m) != 0 | other.of(r, c, m) != 0 ? 1 : 0;
        }
        return left;
    }

    private Worth and(int others) {
        Worth left = not(others);
        while (skip("and")) {
            Worth one = left;
            Worth other = not(others);
            left = (r, c, m) -> one.of(r, c, m) != 0 & other.of(r, c, m) != 0 ? 1 : 0;
        }
        return left;
    }

    private Worth not(int others) {
        if (!sees("not")) {
            Worth one = sum(others);
            if (sees("<") || sees(">") || sees("=")) {
                char sign = peek().text.charAt(0);
                at++;
                Worth other = sum(others);
                return (r, c, m) -> {
                    int order = Integer.compare(one.of(r, c, m), other.of(r, c, m));
                    return order == (sign == '<' ? -1 : sign == '>' ? 1 : 0) ? 1 : 0;
                };
            }
            return one;
        }
        if (others == 7) {
            throw wrong(2);
        }
        at++;
        Worth inner = not(others + 1);
        return (r, c, m) -> inner.of(r, c, m) == 0 ? 1 : 0;
    }

    private Worth sum(int others) {
        Worth left = term(others);
        while (sees("+") || sees("-")) {
            int sign = skip("+") ? 1 : -1;
            if (sign < 0) {
                at++;
            }
            Worth one = left;
            Worth other = term(others);
            left = (r, c, m) -> one.of(r, c, m) + sign * other.of(r, c, m);
        }
        return left;
    }

    private Worth term(int others) {
        Worth left = unit(others);
        while (sees("*") || sees("/") || sees("%")) {
            char sign = peek().text.charAt(0);
            at++;
            Worth one = left;
            Worth other = unit(others);
            left = (r, c, m) -> {
                int x = one.of(r, c, m);
                int y = other.of(r, c, m);
                return sign == '*' ? x * y : y == 0 ? 0 : sign == '/' ? x / y : x % y;
            };
        }
        return left;
    }

    private Worth unit(int others) {
        peek();
        if (draft.units == 30) {
            throw wrong(2);
        }
        draft.units++;
        if (peek().isNumber()) {
            int value = number(0, 9999);
            return (r, c, m) -> value;
        }
        if (skip("row")) {
            return (r, c, m) -> r;
        }
        if (skip("column")) {
            return (r, c, m) -> c;
        }
        if (skip("many")) {
            return (r, c, m) -> m;
        }
        if (!sees("(") || others == 7) {
            throw wrong(2);
        }
        at++;
        Worth inner = or(others + 1);
        need(")");
        return inner;
    }

    // ---- what is

    private static List<Set<Integer>> copy(List<Set<Integer>> pairs) {
        List<Set<Integer>> all = new ArrayList<>();
        for (Set<Integer> one : pairs) {
            all.add(one == null ? null : new HashSet<>(one));
        }
        return all;
    }

    private int size() {
        return 1 << told.levels;
    }

    private boolean is(int rel) {
        return rel >= 0 && rel < told.names.size();
    }

    private boolean node(int... nodes) {
        for (int one : nodes) {
            if (one < 0 || one >= size()) {
                return false;
            }
        }
        return true;
    }

    private Set<Integer> get(int rel) {
        return now.get(rel) != null ? now.get(rel) : told.derived.get(rel).now();
    }

    private static Set<Integer> turnedRound(Set<Integer> pairs) {
        Set<Integer> all = new HashSet<>();
        for (int pair : pairs) {
            all.add(100 * (pair % 100) + pair / 100);
        }
        return all;
    }

    private static Set<Integer> join(int how, Set<Integer> one, Set<Integer> other) {
        Set<Integer> all = new HashSet<>(one);
        switch (how) {
            case 0 -> all.addAll(other);
            case 1 -> all.retainAll(other);
            case 2 -> all.removeAll(other);
            case 4 -> all.addAll(turnedRound(other));
            default -> {
                all.clear();
                for (int p : one) {
                    for (int q : other) {
                        if (p % 100 == q / 100) {
                            all.add(100 * (p / 100) + q % 100);
                        }
                    }
                }
            }
        }
        return all;
    }

    /** A block: its level, first row, first column. */
    private int side(int level) {
        return size() >> level;
    }

    private int countIn(Set<Integer> pairs, int row, int column, int side) {
        int many = 0;
        for (int pair : pairs) {
            if (pair / 100 >= row && pair / 100 < row + side && pair % 100 >= column && pair % 100 < column + side) {
                many++;
            }
        }
        return many;
    }

    /** The BITS: level, first row, first column, 1 or 0. */
    private List<int[]> bits(Set<Integer> pairs) {
        List<int[]> all = new ArrayList<>();
        List<int[]> above = new ArrayList<>();
        above.add(new int[] {0, 0});
        for (int level = 1; level <= told.levels; level++) {
            List<int[]> next = new ArrayList<>();
            int side = side(level);
            for (int[] block : above) {
                for (int q = 0; q < 4; q++) {
                    int row = block[0] + (q >= 2 ? side : 0);
                    int column = block[1] + (q == 1 || q == 3 ? side : 0);
                    int one = countIn(pairs, row, column, side) > 0 ? 1 : 0;
                    all.add(new int[] {level, row, column, one});
                    if (one == 1) {
                        next.add(new int[] {row, column});
                    }
                }
            }
            above = next;
        }
        return all;
    }

    private int sifted(int rel, Set<Integer> into) {
        Set<Integer> pairs = get(rel);
        for (int pair : pairs) {
            if (told.keep.of(pair / 100, pair % 100, pairs.size()) != 0) {
                into.add(pair);
            }
        }
        return into.size();
    }

    int relation(int rel, int what) {
        if (!is(rel)) {
            return NONE;
        }
        int bits = bits(get(rel)).size();
        return switch (what) {
            case 0 -> now.get(rel) == null ? 0 : 1;
            case 1 -> get(rel).size();
            case 2 -> bits;
            case 3 -> size() * size() - bits;
            case 4 -> sifted(rel, new HashSet<>());
            default -> NONE;
        };
    }

    int has(int rel, int row, int column) {
        return !is(rel) || !node(row, column) ? NONE : get(rel).contains(100 * row + column) ? 1 : 0;
    }

    // ---- ACTS

    private void beginAct() {
        done.push(new State(copy(now), seed));
        if (done.size() > 40) {
            done.removeLast();
        }
        undone.clear();
    }

    private boolean told(int rel) {
        return is(rel) && now.get(rel) != null;
    }

    int put(int rel, int row, int column) {
        if (!told(rel) || has(rel, row, column) != 0) {
            return NONE;
        }
        beginAct();
        now.get(rel).add(100 * row + column);
        return now.get(rel).size();
    }

    int take(int rel, int row, int column) {
        if (!told(rel) || has(rel, row, column) != 1) {
            return NONE;
        }
        beginAct();
        now.get(rel).remove(100 * row + column);
        return now.get(rel).size();
    }

    int become(int rel, int how, int one, int other) {
        if (!told(rel) || how < 0 || how > 4 || !is(one) || !is(other)) {
            return NONE;
        }
        beginAct();
        now.set(rel, join(how, get(one), get(other)));
        return now.get(rel).size();
    }

    int sift(int rel) {
        if (!told(rel)) {
            return NONE;
        }
        beginAct();
        Set<Integer> left = new HashSet<>();
        sifted(rel, left);
        int gone = now.get(rel).size() - left.size();
        now.set(rel, left);
        return gone;
    }

    int drift() {
        beginAct();
        seed = (137 * seed + 71) % 1000;
        int many = told.names.size();
        if (many == 0 || seed % 100 >= told.drift || !told(seed % many)) {
            return NONE;
        }
        int pair = 100 * (seed / 16 % size()) + seed % size();
        Set<Integer> pairs = now.get(seed % many);
        if (!pairs.remove(pair)) {
            pairs.add(pair);
        }
        return seed % many;
    }

    private boolean swap(Deque<State> from, Deque<State> to) {
        if (from.isEmpty()) {
            return false;
        }
        to.push(new State(copy(now), seed));
        State state = from.pop();
        now = state.pairs;
        seed = state.seed;
        return true;
    }

    boolean undo() {
        return swap(done, undone);
    }

    boolean redo() {
        return swap(undone, done);
    }

    // ---- the TREE

    private int[] bitAt(int rel, int bit) {
        return is(rel) && bit >= 0 && bit < bits(get(rel)).size() ? bits(get(rel)).get(bit) : null;
    }

    int bit(int rel, int bit) {
        int[] found = bitAt(rel, bit);
        return found == null ? NONE : found[3];
    }

    int rank(int rel, int bit) {
        if (bitAt(rel, bit) == null) {
            return NONE;
        }
        int ones = 0;
        for (int[] one : bits(get(rel)).subList(0, bit + 1)) {
            ones += one[3];
        }
        return ones;
    }

    int child(int rel, int bit, int q) {
        int[] found = bitAt(rel, bit);
        if (found == null || q < 0 || q > 3 || found[3] == 0 || found[0] == told.levels) {
            return NONE;
        }
        int side = side(found[0] + 1);
        int row = found[1] + (q >= 2 ? side : 0);
        int column = found[2] + (q % 2 == 1 ? side : 0);
        List<int[]> all = bits(get(rel));
        for (int i = 0; i < all.size(); i++) {
            int[] one = all.get(i);
            if (one[0] == found[0] + 1 && one[1] == row && one[2] == column) {
                return i;
            }
        }
        throw new IllegalStateException();
    }

    int place(int rel, int bit, int what) {
        int[] found = bitAt(rel, bit);
        return found == null || what < 0 || what > 2 ? NONE : found[what];
    }

    int blocks(int rel, int level) {
        if (!is(rel) || level < 0 || level > told.levels) {
            return NONE;
        }
        Set<Integer> met = new HashSet<>();
        for (int pair : get(rel)) {
            met.add(100 * (pair / 100 / side(level)) + pair % 100 / side(level));
        }
        return met.size();
    }

    // ---- reports

    int row(int rel, int row) {
        return lay(rel, row, true);
    }

    int column(int rel, int column) {
        return lay(rel, column, false);
    }

    private int lay(int rel, int node, boolean row) {
        lying = new ArrayList<>();
        if (!is(rel) || !node(node)) {
            return NONE;
        }
        TreeSet<Integer> found = new TreeSet<>();
        for (int pair : get(rel)) {
            if ((row ? pair / 100 : pair % 100) == node) {
                found.add(row ? pair % 100 : pair / 100);
            }
        }
        lying = new ArrayList<>(found);
        return lying.size();
    }

    int rect(int rel, int from, int to, int left, int right) {
        if (!is(rel) || !node(from, to, left, right) || to < from || right < left) {
            return NONE;
        }
        int many = 0;
        for (int pair : get(rel)) {
            if (pair / 100 >= from && pair / 100 <= to && pair % 100 >= left && pair % 100 <= right) {
                many++;
            }
        }
        return many;
    }

    int looks(int rel, int from, int to, int left, int right) {
        if (rect(rel, from, to, left, right) == NONE) {
            return NONE;
        }
        return look(get(rel), 0, 0, 0, new int[] {from, to, left, right});
    }

    private int look(Set<Integer> pairs, int level, int row, int column, int[] rect) {
        int many = 0;
        int half = side(level) / 2;
        for (int q = 0; q < 4; q++) {
            int r = row + (q >= 2 ? half : 0);
            int c = column + (q % 2 == 1 ? half : 0);
            boolean meets = r <= rect[1] && r + half > rect[0] && c <= rect[3] && c + half > rect[2];
            if (meets) {
                many++;
                if (level + 1 < told.levels && countIn(pairs, r, c, half) > 0) {
                    many += look(pairs, level + 1, r, c, rect);
                }
            }
        }
        return many;
    }

    int walks(int one, int other) {
        return !is(one) || !is(other) ? NONE : walk(get(one), get(other), 0, 0, 0);
    }

    private int walk(Set<Integer> one, Set<Integer> other, int level, int row, int column) {
        int side = side(level);
        if (level == told.levels || countIn(one, row, column, side) == 0 || countIn(other, row, column, side) == 0) {
            return 1;
        }
        int half = side / 2;
        return 1 + walk(one, other, level + 1, row, column) + walk(one, other, level + 1, row, column + half)
            + walk(one, other, level + 1, row + half, column) + walk(one, other, level + 1, row + half, column + half);
    }

    int products(int one, int other) {
        return !is(one) || !is(other) ? NONE : product(get(one), get(other), 0, new int[] {0, 0, 0});
    }

    /** Of the blocks (at[0], at[1]) of the first one and (at[1], at[2]) of the second one. */
    private int product(Set<Integer> one, Set<Integer> other, int level, int[] at) {
        int side = side(level);
        if (countIn(one, at[0], at[1], side) == 0 || countIn(other, at[1], at[2], side) == 0) {
            return 0;
        }
        int many = 1;
        for (int which = 0; which < 8 && level < told.levels; which++) {
            int half = side / 2;
            int[] next = {at[0] + half * (which & 1), at[1] + half * (which >> 1 & 1), at[2] + half * (which >> 2)};
            many += product(one, other, level + 1, next);
        }
        return many;
    }

    int would(int how, int one, int other, int what) {
        if (how < 0 || how > 4 || !is(one) || !is(other) || what < 0 || what > 1) {
            return NONE;
        }
        Set<Integer> joined = join(how, get(one), get(other));
        return what == 0 ? joined.size() : bits(joined).size();
    }

    int pair(int rel, int i, int what) {
        if (!is(rel) || i < 0 || i >= get(rel).size() || what < 0 || what > 1) {
            return NONE;
        }
        int pair = new ArrayList<>(new TreeSet<>(get(rel))).get(i);
        return what == 0 ? pair / 100 : pair % 100;
    }

    int unlike(int one, int other) {
        if (!is(one) || !is(other)) {
            return NONE;
        }
        return join(0, get(one), get(other)).size() - join(1, get(one), get(other)).size();
    }

    int within(int one, int other) {
        return !is(one) || !is(other) ? NONE : get(other).containsAll(get(one)) ? 1 : 0;
    }

    int busiest(int rel, int what) {
        if (!is(rel) || what < 0 || what > 1) {
            return NONE;
        }
        int best = 0;
        int most = 0;
        for (int node = 0; node < size(); node++) {
            int many = 0;
            for (int pair : get(rel)) {
                many += (what == 0 ? pair / 100 : pair % 100) == node ? 1 : 0;
            }
            if (many > most) {
                most = many;
                best = node;
            }
        }
        return best;
    }

    int densest(int rel, int level, int what) {
        if (!is(rel) || level < 0 || level > told.levels || what < 0 || what > 2) {
            return NONE;
        }
        int[] best = {0, 0, -1};
        int side = side(level);
        for (int row = 0; row < size(); row += side) {
            for (int column = 0; column < size(); column += side) {
                int many = countIn(get(rel), row, column, side);
                if (many > best[2]) {
                    best = new int[] {row, column, many};
                }
            }
        }
        return best[what];
    }

    // ---- STEPS

    /** In how few steps each node is come to. */
    private Map<Integer, Integer> distances(Set<Integer> pairs, int from) {
        Map<Integer, Integer> far = new HashMap<>();
        Deque<Integer> queue = new ArrayDeque<>(List.of(from));
        far.put(from, 0);
        while (!queue.isEmpty()) {
            int node = queue.poll();
            for (int pair : pairs) {
                if (pair / 100 == node && !far.containsKey(pair % 100)) {
                    far.put(pair % 100, far.get(node) + 1);
                    queue.add(pair % 100);
                }
            }
        }
        return far;
    }

    int reached(int rel, int from) {
        if (!is(rel) || !node(from)) {
            return NONE;
        }
        int bits = 0;
        for (int node : distances(get(rel), from).keySet()) {
            bits |= 1 << node;
        }
        return bits;
    }

    int far(int rel, int from, int to) {
        return !is(rel) || !node(from, to) ? NONE : distances(get(rel), from).getOrDefault(to, NONE);
    }

    int mutual(int rel, int node) {
        if (!is(rel) || !node(node)) {
            return NONE;
        }
        int bits = 0;
        for (int other : distances(get(rel), node).keySet()) {
            bits |= distances(get(rel), other).containsKey(node) ? 1 << other : 0;
        }
        return bits;
    }

    int closure(int rel) {
        if (!is(rel)) {
            return NONE;
        }
        Set<Integer> all = new HashSet<>();
        for (int pair : get(rel)) {
            for (int node : distances(get(rel), pair % 100).keySet()) {
                all.add(100 * (pair / 100) + node);
            }
        }
        return all.size();
    }

    int settles(int rel) {
        if (!is(rel)) {
            return NONE;
        }
        Set<Integer> it = get(rel);
        for (int goes = 0;; goes++) {
            Set<Integer> next = join(0, it, join(3, it, it));
            if (next.equals(it)) {
                return goes;
            }
            it = next;
        }
    }

    int parts(int rel) {
        if (!is(rel)) {
            return NONE;
        }
        int[] part = new int[size()];
        for (int i = 0; i < size(); i++) {
            part[i] = i;
        }
        for (int pair : get(rel)) {
            int from = part[pair / 100];
            int to = part[pair % 100];
            for (int i = 0; i < size(); i++) {
                part[i] = part[i] == from ? to : part[i];
            }
        }
        Set<Integer> all = new HashSet<>();
        for (int one : part) {
            all.add(one);
        }
        return all.size();
    }

    int is(int rel, int what) {
        if (!is(rel) || what < 0 || what > 5) {
            return NONE;
        }
        Set<Integer> pairs = get(rel);
        Set<Integer> rows = new HashSet<>();
        Set<Integer> columns = new HashSet<>();
        for (int pair : pairs) {
            rows.add(pair / 100);
            columns.add(pair % 100);
        }
        boolean so = switch (what) {
            case 0 -> pairs.containsAll(square(true));
            case 1 -> pairs.equals(turnedRound(pairs));
            case 2 -> pairs.containsAll(join(3, pairs, pairs));
            case 3 -> rows.size() == pairs.size();
            case 4 -> columns.size() == pairs.size();
            default -> rows.size() == size();
        };
        return so ? 1 : 0;
    }

    int law(int rel, int n) {
        if (!is(rel) || n < told.levels || n > 6) {
            return NONE;
        }
        Set<Integer> pairs = get(rel);
        int levels = told.levels;
        told.levels = n;
        int many = bits(pairs).size();
        told.levels = levels;
        return many;
    }

    int odds(int n, int part) {
        if (n < 0 || n > 4 || part < 0 || part > 1) {
            return NONE;
        }
        int upper = 1;
        int lower = 1;
        for (int i = 0; i < n; i++) {
            upper *= 100 - told.drift;
            lower *= 100;
        }
        for (int prime : new int[] {2, 3, 5, 7}) {
            while (upper > 0 && upper % prime == 0 && lower % prime == 0) {
                upper /= prime;
                lower /= prime;
            }
        }
        return part == 0 ? upper : upper == 0 ? 1 : lower;
    }

    int lies(int i) {
        return i >= 0 && i < lying.size() ? lying.get(i) : -2;
    }

    // ---- SEEN

    int seen(int level, int block, int many, boolean is) {
        boolean can = level >= 0 && level <= told.levels && block >= 0 && block < Math.pow(4, level) && many >= 0 && many <= 256;
        if (!can || sightings.size() == 30 || told.names.isEmpty()) {
            return NONE;
        }
        sightings.add(new Seen(level, block, many, is, time, Integer.MAX_VALUE));
        return sightings.size() - 1;
    }

    boolean untell(int seen) {
        if (seen < 0 || seen >= sightings.size() || sightings.get(seen).untold != Integer.MAX_VALUE) {
            return false;
        }
        Seen s = sightings.get(seen);
        sightings.set(seen, new Seen(s.level, s.block, s.many, s.is, s.told, time));
        return true;
    }

    int later(int by) {
        if (by < 0 || by > 1000 || time + by > 100000) {
            return NONE;
        }
        time += by;
        return time;
    }

    private Set<Integer> turned(int which) {
        Set<Integer> pairs = new HashSet<>(first);
        int pair = 100 * (which / size()) + which % size();
        if (which >= 0 && !pairs.remove(pair)) {
            pairs.add(pair);
        }
        return pairs;
    }

    private int inBlock(Set<Integer> pairs, int level, int block) {
        int wide = 1 << level;
        return countIn(pairs, block / wide * side(level), block % wide * side(level), side(level));
    }

    private List<Integer> fitting(int k) {
        List<Integer> all = new ArrayList<>();
        for (int which = -1; which < size() * size() && !told.names.isEmpty(); which++) {
            Set<Integer> pairs = turned(which);
            boolean so = true;
            for (Seen s : sightings) {
                if (s.told <= k && (s.untold == Integer.MAX_VALUE || s.untold > k)) {
                    so &= (inBlock(pairs, s.level, s.block) == s.many) == s.is;
                }
            }
            if (so) {
                all.add(which);
            }
        }
        return all;
    }

    int fits(int k) {
        return fitting(k).size();
    }

    int fit(int i, int k) {
        List<Integer> all = fitting(k);
        return i >= 0 && i < all.size() ? all.get(i) : -2;
    }

    int ask(int level, int what, int k) {
        List<Integer> all = fitting(k);
        if (all.isEmpty() || level < 0 || level > told.levels || what < 0 || what > 1) {
            return NONE;
        }
        int best = 0;
        int fewest = Integer.MAX_VALUE;
        for (int block = 0; block < Math.pow(4, level); block++) {
            Map<Integer, Integer> left = new HashMap<>();
            for (int which : all) {
                left.merge(inBlock(turned(which), level, block), 1, Integer::sum);
            }
            int most = 0;
            for (int many : left.values()) {
                most = Math.max(most, many);
            }
            if (most < fewest) {
                fewest = most;
                best = block;
            }
        }
        return what == 0 ? best : fewest;
    }

    // ---- BOXES

    private int toldPairs() {
        int many = 0;
        for (Set<Integer> pairs : now) {
            many += pairs == null ? 0 : pairs.size();
        }
        return many;
    }

    int image(int box) {
        if (box < 0 || box > 2) {
            return NONE;
        }
        boxes[box] = new State(copy(now), seed);
        return toldPairs();
    }

    int back(int box) {
        if (box < 0 || box > 2 || boxes[box] == null) {
            return NONE;
        }
        now = copy(boxes[box].pairs);
        seed = boxes[box].seed;
        done.clear();
        undone.clear();
        return toldPairs();
    }

    int about(int what) {
        int bits = 0;
        for (int rel = 0; rel < now.size(); rel++) {
            bits |= now.get(rel) == null ? 0 : 1 << rel;
        }
        int[] all = {told.names.size(), told.levels, size(), bits, toldPairs(), seed, done.size(), undone.size(),
            sightings.size(), time, tape.length(), told.units, lying.size(), told.drift};
        return what < 0 || what >= all.length ? NONE : all[what];
    }
}
