import java.util.Arrays;

/** Relations kept as bit trees of square blocks; ../shared/DOC.md says what each call answers. */
public final class PairTree {
    public static final int NONE = -1;

    private static final int NO_SUCH = -2;

    private static final int MOST_BYTES = 1600;
    private static final int BYTES_FED = 20;
    private static final int MOST_LEVELS = 4;
    private static final int LEVELS_UNTOLD = 3;
    private static final int MOST_LEVELS_IN_LAW = 6;
    private static final int MOST_SIZE = 16;
    private static final int MOST_BITS = 340;
    private static final int MOST_RELATIONS = 5;
    private static final int MOST_ACTS = 40;
    private static final int BOXES = 3;
    private static final int MOST_SEEN = 30;
    private static final int MOST_PAIRS_SEEN = 256;
    private static final int MOST_LATER = 1000;
    private static final int LAST_TIME = 100000;
    private static final int MOST_GOES = 4;

    private static final int OR_HOW = 0;
    private static final int AND_HOW = 1;
    private static final int LESS_HOW = 2;
    private static final int THEN_HOW = 3;
    private static final int OR_BACK_HOW = 4;

    private final byte[] tape;
    private int taped;
    private Plan plan;
    private Plan draft;
    private final Reader reader;
    private final Relations relations;
    private final History history;
    private final Box[] boxes;
    private final Sightings sightings;
    private final Tree tree;
    private final Tree otherTree;
    private final Grid made;
    private final Steps steps;
    private final int[] lying;
    private int lyingMany;

    public PairTree() {
        tape = new byte[MOST_BYTES];
        plan = new Plan();
        draft = new Plan();
        reader = new Reader();
        relations = new Relations();
        history = new History();
        boxes = new Box[BOXES];
        for (int box = 0; box < BOXES; box++) {
            boxes[box] = new Box();
        }
        sightings = new Sightings();
        tree = new Tree();
        otherTree = new Tree();
        made = new Grid();
        steps = new Steps();
        lying = new int[MOST_SIZE];
        startAnew();
    }

    // ---- the text of a STORE

    public int feed(int a, int b, int c, int d, int e) {
        if (taped + BYTES_FED > MOST_BYTES) {
            return NONE;
        }
        layBytes(a);
        layBytes(b);
        layBytes(c);
        layBytes(d);
        layBytes(e);
        return taped;
    }

    private void layBytes(int number) {
        for (int shift = 24; shift >= 0 && taped < MOST_BYTES; shift -= 8) {
            tape[taped] = (byte) (number >> shift);
            taped++;
        }
    }

    public int end(int n) {
        if (n < 0 || n > taped) {
            return NONE;
        }
        taped = n;
        return n;
    }

    public int store() {
        boolean good = reader.read(tape, taped, draft);
        taped = 0;
        if (!good) {
            return NONE;
        }
        Plan former = plan;
        plan = draft;
        draft = former;
        startAnew();
        return plan.relations;
    }

    private void startAnew() {
        relations.begin(plan);
        history.forget();
        for (int box = 0; box < BOXES; box++) {
            boxes[box].full = false;
        }
        sightings.begin(plan, relations.grids[0]);
        lyingMany = 0;
    }

    public int fault(int what) {
        switch (what) {
            case 0:
                return reader.fault;
            case 1:
                return reader.faultPlace;
            default:
                return NONE;
        }
    }

    // ---- what can be

    private boolean isRelation(int rel) {
        return rel >= 0 && rel < plan.relations;
    }

    private boolean areRelations(int one, int other) {
        return isRelation(one) && isRelation(other);
    }

    private boolean isToldOne(int rel) {
        return isRelation(rel) && plan.isTold(rel);
    }

    private boolean isNode(int number) {
        return number >= 0 && number < plan.size();
    }

    private boolean isLevel(int level) {
        return level >= 0 && level <= plan.levels;
    }

    private boolean isRectangle(int from, int to, int left, int right) {
        return isNode(from) && isNode(to) && isNode(left) && isNode(right) && from <= to && left <= right;
    }

    // ---- one RELATION

    public int relation(int rel, int what) {
        if (!isRelation(rel)) {
            return NONE;
        }
        Grid grid = relations.grids[rel];
        switch (what) {
            case 0:
                return plan.isTold(rel) ? 1 : 0;
            case 1:
                return grid.count();
            case 2:
                return bitsOf(grid);
            case 3:
                return plan.size() * plan.size() - bitsOf(grid);
            case 4:
                siftInto(made, grid);
                return made.count();
            default:
                return NONE;
        }
    }

    private int bitsOf(Grid grid) {
        tree.grow(grid, plan.levels);
        return tree.countBits();
    }

    public int has(int rel, int row, int column) {
        if (!isRelation(rel) || !isNode(row) || !isNode(column)) {
            return NONE;
        }
        return relations.grids[rel].holds(row, column) ? 1 : 0;
    }

    // ---- ACTS

    public int put(int rel, int row, int column) {
        return turnPair(rel, row, column, 0);
    }

    public int take(int rel, int row, int column) {
        return turnPair(rel, row, column, 1);
    }

    private int turnPair(int rel, int row, int column, int ahead) {
        if (!isToldOne(rel) || has(rel, row, column) != ahead) {
            return NONE;
        }
        made.copyFrom(relations.grids[rel]);
        made.turn(row, column);
        perform(rel, made, relations.seed);
        return relations.grids[rel].count();
    }

    public int become(int rel, int how, int one, int other) {
        if (!isToldOne(rel) || !makeOfTwo(how, one, other)) {
            return NONE;
        }
        perform(rel, made, relations.seed);
        return relations.grids[rel].count();
    }

    private boolean makeOfTwo(int how, int one, int other) {
        if (how < OR_HOW || how > OR_BACK_HOW || !areRelations(one, other)) {
            return false;
        }
        made.join(how, relations.grids[one], relations.grids[other]);
        return true;
    }

    public int sift(int rel) {
        if (!isToldOne(rel)) {
            return NONE;
        }
        int ahead = relations.grids[rel].count();
        siftInto(made, relations.grids[rel]);
        perform(rel, made, relations.seed);
        return ahead - relations.grids[rel].count();
    }

    private void siftInto(Grid into, Grid from) {
        int many = from.count();
        into.copyFrom(from);
        for (int row = 0; row < from.size; row++) {
            for (int column = 0; column < from.size; column++) {
                if (from.holds(row, column) && plan.keep.work(row, column, many) == 0) {
                    into.turn(row, column);
                }
            }
        }
    }

    public int drift() {
        int seed = (relations.seed * 137 + 71) % 1000;
        int rel = driftsTo(seed);
        if (rel != NONE) {
            made.copyFrom(relations.grids[rel]);
            made.turn(seed / 16 % plan.size(), seed % plan.size());
        }
        perform(rel, made, seed);
        return rel;
    }

    private int driftsTo(int seed) {
        if (plan.relations == 0 || seed % 100 >= plan.drift) {
            return NONE;
        }
        int rel = seed % plan.relations;
        return plan.isTold(rel) ? rel : NONE;
    }

    private void perform(int rel, Grid after, int seed) {
        history.add(rel, relations, after, seed);
        history.goOn(relations);
        relations.derive();
    }

    public boolean undo() {
        boolean isDone = history.goBack(relations);
        relations.derive();
        return isDone;
    }

    public boolean redo() {
        boolean isDone = history.goOn(relations);
        relations.derive();
        return isDone;
    }

    // ---- the BITS of a TREE

    public int bit(int rel, int bit) {
        return isBit(rel, bit) ? tree.bitAt(bit) : NONE;
    }

    public int rank(int rel, int bit) {
        return isBit(rel, bit) ? tree.rankAt(bit) : NONE;
    }

    public int child(int rel, int bit, int q) {
        if (q < 0 || q > 3 || !isBit(rel, bit)) {
            return NONE;
        }
        if (tree.bitAt(bit) == 0 || tree.levelAt(bit) == plan.levels) {
            return NONE;
        }
        return 4 * tree.rankAt(bit) + q;
    }

    public int place(int rel, int bit, int what) {
        if (!isBit(rel, bit)) {
            return NONE;
        }
        switch (what) {
            case 0:
                return tree.levelAt(bit);
            case 1:
                return tree.firstRowAt(bit);
            case 2:
                return tree.firstColumnAt(bit);
            default:
                return NONE;
        }
    }

    /** Behind a true answer the tree has the BITS of this RELATION. */
    private boolean isBit(int rel, int bit) {
        if (!isRelation(rel) || bit < 0) {
            return false;
        }
        tree.grow(relations.grids[rel], plan.levels);
        tree.layBits();
        return bit < tree.countBits();
    }

    public int blocks(int rel, int level) {
        if (!isRelation(rel) || !isLevel(level)) {
            return NONE;
        }
        tree.grow(relations.grids[rel], plan.levels);
        return tree.filledOn(level).count();
    }

    // ---- reports

    public int row(int rel, int row) {
        lyingMany = 0;
        if (!isRelation(rel) || !isNode(row)) {
            return NONE;
        }
        layNodes(relations.grids[rel].rows[row]);
        return lyingMany;
    }

    public int column(int rel, int column) {
        lyingMany = 0;
        if (!isRelation(rel) || !isNode(column)) {
            return NONE;
        }
        layNodes(relations.grids[rel].rowsWith(column));
        return lyingMany;
    }

    private void layNodes(int nodes) {
        for (int node = 0; node < MOST_SIZE; node++) {
            if ((nodes >> node & 1) == 1) {
                lying[lyingMany] = node;
                lyingMany++;
            }
        }
    }

    public int rect(int rel, int from, int to, int left, int right) {
        if (!isRelation(rel) || !isRectangle(from, to, left, right)) {
            return NONE;
        }
        return relations.grids[rel].countIn(from, to, left, right);
    }

    public int looks(int rel, int from, int to, int left, int right) {
        if (!isRelation(rel) || !isRectangle(from, to, left, right)) {
            return NONE;
        }
        tree.grow(relations.grids[rel], plan.levels);
        tree.layBits();
        return tree.countBitsIn(from, to, left, right);
    }

    public int walks(int one, int other) {
        if (!growBoth(one, other)) {
            return NONE;
        }
        return tree.walkBeside(otherTree);
    }

    public int products(int one, int other) {
        if (!growBoth(one, other)) {
            return NONE;
        }
        return tree.multiplyBy(otherTree);
    }

    private boolean growBoth(int one, int other) {
        if (!areRelations(one, other)) {
            return false;
        }
        tree.grow(relations.grids[one], plan.levels);
        otherTree.grow(relations.grids[other], plan.levels);
        return true;
    }

    public int would(int how, int one, int other, int what) {
        if (!makeOfTwo(how, one, other)) {
            return NONE;
        }
        switch (what) {
            case 0:
                return made.count();
            case 1:
                return bitsOf(made);
            default:
                return NONE;
        }
    }

    public int pair(int rel, int i, int what) {
        if (!isRelation(rel) || i < 0 || what < 0 || what > 1) {
            return NONE;
        }
        int found = relations.grids[rel].findPair(i);
        if (found == NONE) {
            return NONE;
        }
        return what == 0 ? found / MOST_SIZE : found % MOST_SIZE;
    }

    public int unlike(int one, int other) {
        if (!areRelations(one, other)) {
            return NONE;
        }
        made.join(LESS_HOW, relations.grids[one], relations.grids[other]);
        int ofOne = made.count();
        made.join(LESS_HOW, relations.grids[other], relations.grids[one]);
        return ofOne + made.count();
    }

    public int within(int one, int other) {
        if (!areRelations(one, other)) {
            return NONE;
        }
        made.join(LESS_HOW, relations.grids[one], relations.grids[other]);
        return made.count() == 0 ? 1 : 0;
    }

    public int busiest(int rel, int what) {
        if (!isRelation(rel) || what < 0 || what > 1) {
            return NONE;
        }
        Grid grid = relations.grids[rel];
        int best = 0;
        int most = NONE;
        for (int node = 0; node < grid.size; node++) {
            int many = Integer.bitCount(what == 0 ? grid.rows[node] : grid.rowsWith(node));
            if (many > most) {
                most = many;
                best = node;
            }
        }
        return best;
    }

    public int densest(int rel, int level, int what) {
        if (!isRelation(rel) || !isLevel(level) || what < 0 || what > 2) {
            return NONE;
        }
        Grid grid = relations.grids[rel];
        int block = grid.fullestBlock(level, plan.levels);
        int shift = plan.levels - level;
        int blockRow = block >> level;
        int blockColumn = block & (1 << level) - 1;
        switch (what) {
            case 0:
                return blockRow << shift;
            case 1:
                return blockColumn << shift;
            default:
                return grid.countInBlock(block, level, plan.levels);
        }
    }

    // ---- STEPS

    public int reached(int rel, int from) {
        if (!isRelation(rel) || !isNode(from)) {
            return NONE;
        }
        return steps.allFrom(relations.grids[rel], from);
    }

    public int far(int rel, int from, int to) {
        if (!isRelation(rel) || !isNode(from) || !isNode(to)) {
            return NONE;
        }
        return steps.fewest(relations.grids[rel], from, to);
    }

    public int mutual(int rel, int node) {
        if (!isRelation(rel) || !isNode(node)) {
            return NONE;
        }
        return steps.bothWays(relations.grids[rel], node);
    }

    public int closure(int rel) {
        return isRelation(rel) ? steps.countClosure(relations.grids[rel]) : NONE;
    }

    public int settles(int rel) {
        return isRelation(rel) ? steps.countGoes(relations.grids[rel]) : NONE;
    }

    public int parts(int rel) {
        return isRelation(rel) ? steps.countSets(relations.grids[rel]) : NONE;
    }

    public int is(int rel, int what) {
        if (!isRelation(rel) || what < 0 || what > 5) {
            return NONE;
        }
        return holdsFor(relations.grids[rel], what) ? 1 : 0;
    }

    private boolean holdsFor(Grid grid, int what) {
        switch (what) {
            case 0:
                return grid.hasEachOwn();
            case 1:
                return grid.isEven();
            case 2:
                made.join(THEN_HOW, grid, grid);
                return made.isWithin(grid);
            case 3:
                return grid.mostInARow() <= 1;
            case 4:
                return grid.mostInAColumn() <= 1;
            default:
                return grid.leastInARow() >= 1;
        }
    }

    // ---- what follows from the STORE alone

    public int law(int rel, int n) {
        if (!isRelation(rel) || n < plan.levels || n > MOST_LEVELS_IN_LAW) {
            return NONE;
        }
        int bits = bitsOf(relations.grids[rel]);
        // each new level has the former whole as its first QUARTER; an EMPTY whole is told by four BITS, however large
        return relations.grids[rel].count() == 0 ? bits : bits + 4 * (n - plan.levels);
    }

    public int odds(int n, int part) {
        if (n < 0 || n > MOST_GOES || part < 0 || part > 1) {
            return NONE;
        }
        int upper = 1;
        int lower = 1;
        for (int go = 0; go < n; go++) {
            upper *= 100 - plan.drift;
            lower *= 100;
        }
        int common = commonDivisor(lower, upper);
        return part == 0 ? upper / common : lower / common;
    }

    /** At least 1, for a first number of at least 1. */
    private static int commonDivisor(int first, int second) {
        int greater = first;
        int lesser = second;
        // Euclid needs fewer rounds than twice the bits of an int
        for (int round = 0; round < 64 && lesser > 0; round++) {
            int rest = greater % lesser;
            greater = lesser;
            lesser = rest;
        }
        return Math.max(greater, 1);
    }

    public int lies(int i) {
        return i >= 0 && i < lyingMany ? lying[i] : NO_SUCH;
    }

    // ---- SEEN

    public int seen(int level, int block, int many, boolean is) {
        if (plan.relations == 0 || !isLevel(level) || many < 0 || many > MOST_PAIRS_SEEN) {
            return NONE;
        }
        if (block < 0 || block >= 1 << 2 * level) {
            return NONE;
        }
        return sightings.tell(level, block, many, is);
    }

    public boolean untell(int seen) {
        return sightings.takeBack(seen);
    }

    public int later(int by) {
        if (by < 0 || by > MOST_LATER || sightings.time + by > LAST_TIME) {
            return NONE;
        }
        sightings.time += by;
        return sightings.time;
    }

    public int fits(int k) {
        return sightings.countFits(k);
    }

    public int fit(int i, int k) {
        return sightings.findFit(i, k);
    }

    public int ask(int level, int what, int k) {
        if (!isLevel(level) || what < 0 || what > 1) {
            return NONE;
        }
        return sightings.bestBlock(level, k, what == 1);
    }

    // ---- BOXES

    public int image(int box) {
        if (box < 0 || box >= BOXES) {
            return NONE;
        }
        boxes[box].keep(relations);
        return relations.countTold();
    }

    public int back(int box) {
        if (box < 0 || box >= BOXES || !boxes[box].full) {
            return NONE;
        }
        boxes[box].giveBack(relations);
        history.forget();
        return relations.countTold();
    }

    public int about(int what) {
        switch (what) {
            case 0:
                return plan.relations;
            case 1:
                return plan.levels;
            case 2:
                return plan.size();
            case 3:
                return plan.told;
            case 4:
                return relations.countTold();
            case 5:
                return relations.seed;
            case 6:
                return history.done;
            case 7:
                return history.kept - history.done;
            case 8:
                return sightings.many;
            case 9:
                return sightings.time;
            case 10:
                return taped;
            case 11:
                return plan.units;
            case 12:
                return lyingMany;
            case 13:
                return plan.drift;
            default:
                return NONE;
        }
    }

    /** The pairs of one RELATION: an int for each row, a bit of it for each column. */
    private static final class Grid {
        final int[] rows = new int[MOST_SIZE];
        int size;

        void clear(int newSize) {
            size = Math.max(0, Math.min(newSize, MOST_SIZE));
            Arrays.fill(rows, 0);
        }

        void copyFrom(Grid from) {
            size = from.size;
            System.arraycopy(from.rows, 0, rows, 0, MOST_SIZE);
        }

        boolean isInside(int row, int column) {
            return row >= 0 && row < size && column >= 0 && column < size;
        }

        boolean holds(int row, int column) {
            return isInside(row, column) && (rows[row] >> column & 1) == 1;
        }

        void turn(int row, int column) {
            if (isInside(row, column)) {
                rows[row] ^= 1 << column;
            }
        }

        void add(int row, int column) {
            if (isInside(row, column)) {
                rows[row] |= 1 << column;
            }
        }

        void fillSame(int newSize) {
            clear(newSize);
            for (int row = 0; row < size; row++) {
                rows[row] = 1 << row;
            }
        }

        void fillAll(int newSize) {
            clear(newSize);
            for (int row = 0; row < size; row++) {
                rows[row] = (1 << size) - 1;
            }
        }

        /** This one must be neither of the two: its rows are written while theirs are read. */
        void join(int how, Grid one, Grid other) {
            clear(one.size);
            for (int row = 0; row < size; row++) {
                int mine = one.rows[row];
                switch (how) {
                    case OR_HOW:
                        rows[row] = mine | other.rows[row];
                        break;
                    case AND_HOW:
                        rows[row] = mine & other.rows[row];
                        break;
                    case LESS_HOW:
                        rows[row] = mine & ~other.rows[row];
                        break;
                    case THEN_HOW:
                        rows[row] = other.stepFrom(mine);
                        break;
                    default:
                        rows[row] = mine | other.rowsWith(row);
                }
            }
        }

        /** This one must be another one. */
        void changeOver(Grid from) {
            clear(from.size);
            for (int row = 0; row < size; row++) {
                rows[row] = from.rowsWith(row);
            }
        }

        /** All columns that one of these rows has a pair with. */
        int stepFrom(int nodes) {
            int next = 0;
            for (int row = 0; row < size; row++) {
                if ((nodes >> row & 1) == 1) {
                    next |= rows[row];
                }
            }
            return next;
        }

        int rowsWith(int column) {
            int found = 0;
            for (int row = 0; row < size; row++) {
                if ((rows[row] >> column & 1) == 1) {
                    found |= 1 << row;
                }
            }
            return found;
        }

        int count() {
            int many = 0;
            for (int row = 0; row < size; row++) {
                many += Integer.bitCount(rows[row]);
            }
            return many;
        }

        int countIn(int from, int to, int left, int right) {
            int columns = (1 << right + 1) - (1 << left);
            int many = 0;
            for (int row = Math.max(0, from); row <= to && row < size; row++) {
                many += Integer.bitCount(rows[row] & columns);
            }
            return many;
        }

        int countInBlock(int block, int level, int levels) {
            int side = 1 << levels - level;
            int row = (block >> level) * side;
            int column = (block & (1 << level) - 1) * side;
            return countIn(row, row + side - 1, column, column + side - 1);
        }

        int fullestBlock(int level, int levels) {
            int best = 0;
            int most = NONE;
            for (int block = 0; block < 1 << 2 * level; block++) {
                int many = countInBlock(block, level, levels);
                if (many > most) {
                    most = many;
                    best = block;
                }
            }
            return best;
        }

        /** MOST_SIZE times the row, and the column. */
        int findPair(int index) {
            int left = index;
            for (int row = 0; row < size; row++) {
                for (int column = 0; column < size; column++) {
                    if (holds(row, column)) {
                        if (left == 0) {
                            return MOST_SIZE * row + column;
                        }
                        left--;
                    }
                }
            }
            return NONE;
        }

        boolean isWithin(Grid other) {
            for (int row = 0; row < size; row++) {
                if ((rows[row] & ~other.rows[row]) != 0) {
                    return false;
                }
            }
            return true;
        }

        boolean hasEachOwn() {
            for (int row = 0; row < size; row++) {
                if (!holds(row, row)) {
                    return false;
                }
            }
            return true;
        }

        boolean isEven() {
            for (int row = 0; row < size; row++) {
                if (rows[row] != rowsWith(row)) {
                    return false;
                }
            }
            return true;
        }

        int mostInARow() {
            int most = 0;
            for (int row = 0; row < size; row++) {
                most = Math.max(most, Integer.bitCount(rows[row]));
            }
            return most;
        }

        int leastInARow() {
            int least = size;
            for (int row = 0; row < size; row++) {
                least = Math.min(least, Integer.bitCount(rows[row]));
            }
            return least;
        }

        int mostInAColumn() {
            int most = 0;
            for (int column = 0; column < size; column++) {
                most = Math.max(most, Integer.bitCount(rowsWith(column)));
            }
            return most;
        }

        /** Becomes the square of half the size that has a pair where a block of four of the other one has any. */
        void halve(Grid from) {
            clear(from.size / 2);
            for (int row = 0; row < size; row++) {
                int both = from.rows[2 * row] | from.rows[2 * row + 1];
                for (int column = 0; column < size; column++) {
                    if ((both >> 2 * column & 3) != 0) {
                        rows[row] |= 1 << column;
                    }
                }
            }
        }
    }

    /** The TREE of a RELATION: which BLOCKS of each level are not EMPTY, and where its BITS lie. */
    private static final class Tree {
        // a square of 2 to the power of the level a side: it has a pair for each BLOCK that is not EMPTY
        private final Grid[] filled = new Grid[MOST_LEVELS + 1];
        private final int[] bitLevels = new int[MOST_BITS];
        private final int[] bitRows = new int[MOST_BITS];
        private final int[] bitColumns = new int[MOST_BITS];
        private int laid;
        private int levels;

        Tree() {
            for (int level = 0; level <= MOST_LEVELS; level++) {
                filled[level] = new Grid();
            }
        }

        void grow(Grid grid, int newLevels) {
            levels = Math.max(1, Math.min(newLevels, MOST_LEVELS));
            filled[levels].copyFrom(grid);
            for (int level = levels - 1; level >= 0; level--) {
                filled[level].halve(filled[level + 1]);
            }
        }

        Grid filledOn(int level) {
            return filled[Math.max(0, Math.min(level, levels))];
        }

        int countBits() {
            int many = 4;
            for (int level = 1; level < levels; level++) {
                many += 4 * filled[level].count();
            }
            return many;
        }

        void layBits() {
            laid = 0;
            layQuarters(1, 0, 0);
            // the row of BITS is its own queue: it grows while it is gone through, up to the bound
            for (int bit = 0; bit < laid && bit < MOST_BITS; bit++) {
                if (bitLevels[bit] < levels && bitAt(bit) == 1) {
                    layQuarters(bitLevels[bit] + 1, 2 * bitRows[bit], 2 * bitColumns[bit]);
                }
            }
        }

        private void layQuarters(int level, int row, int column) {
            for (int q = 0; q < 4 && laid < MOST_BITS; q++) {
                bitLevels[laid] = level;
                bitRows[laid] = row + q / 2;
                bitColumns[laid] = column + q % 2;
                laid++;
            }
        }

        private boolean isLaid(int bit) {
            return bit >= 0 && bit < laid;
        }

        int bitAt(int bit) {
            return isLaid(bit) && filledOn(bitLevels[bit]).holds(bitRows[bit], bitColumns[bit]) ? 1 : 0;
        }

        int rankAt(int bit) {
            int ones = 0;
            for (int at = 0; at <= bit && at < laid; at++) {
                ones += bitAt(at);
            }
            return ones;
        }

        int levelAt(int bit) {
            return isLaid(bit) ? bitLevels[bit] : 0;
        }

        int firstRowAt(int bit) {
            return isLaid(bit) ? bitRows[bit] << levels - bitLevels[bit] : 0;
        }

        int firstColumnAt(int bit) {
            return isLaid(bit) ? bitColumns[bit] << levels - bitLevels[bit] : 0;
        }

        /** What a REPORT LOOKS AT: a BIT is there only if the BLOCK above is gone into, so its own place decides. */
        int countBitsIn(int from, int to, int left, int right) {
            int many = 0;
            for (int bit = 0; bit < laid; bit++) {
                int last = (1 << levels - bitLevels[bit]) - 1;
                int row = firstRowAt(bit);
                int column = firstColumnAt(bit);
                if (row <= to && row + last >= from && column <= right && column + last >= left) {
                    many++;
                }
            }
            return many;
        }

        /** The wholes, and four for each place above the last level where none of both is EMPTY. */
        int walkBeside(Tree other) {
            int many = 1;
            for (int level = 0; level < levels; level++) {
                Grid mine = filled[level];
                Grid others = other.filledOn(level);
                for (int row = 0; row < mine.size; row++) {
                    many += 4 * Integer.bitCount(mine.rows[row] & others.rows[row]);
                }
            }
            return many;
        }

        /** On each level: a BLOCK of the first one, and one of the second one in the rows that are its columns. */
        int multiplyBy(Tree other) {
            int many = 0;
            for (int level = 0; level <= levels; level++) {
                Grid mine = filled[level];
                Grid others = other.filledOn(level);
                for (int middle = 0; middle < mine.size; middle++) {
                    many += Integer.bitCount(mine.rowsWith(middle)) * Integer.bitCount(others.rows[middle]);
                }
            }
            return many;
        }
    }

    /** What comes of going from rows to columns. */
    private static final class Steps {
        private final Grid here = new Grid();
        private final Grid next = new Grid();

        int allFrom(Grid grid, int from) {
            int nodes = 1 << from;
            for (int go = 0; go < grid.size; go++) {
                nodes |= grid.stepFrom(nodes);
            }
            return nodes;
        }

        int fewest(Grid grid, int from, int to) {
            int nodes = 1 << from;
            for (int go = 0; go < grid.size; go++) {
                if ((nodes >> to & 1) == 1) {
                    return go;
                }
                nodes |= grid.stepFrom(nodes);
            }
            return NONE;
        }

        int bothWays(Grid grid, int node) {
            here.changeOver(grid);
            return allFrom(grid, node) & allFrom(here, node);
        }

        int countClosure(Grid grid) {
            settle(grid);
            return here.count();
        }

        int countGoes(Grid grid) {
            return settle(grid);
        }

        /** How many goes bring something new; the pairs behind them are here then. */
        private int settle(Grid grid) {
            here.copyFrom(grid);
            int goes = 0;
            // a go doubles how far the pairs reach, so that there are fewer goes than rows
            for (int go = 0; go < MOST_SIZE; go++) {
                next.join(THEN_HOW, here, here);
                if (next.isWithin(here)) {
                    return goes;
                }
                for (int row = 0; row < here.size; row++) {
                    here.rows[row] |= next.rows[row];
                }
                goes++;
            }
            return goes;
        }

        int countSets(Grid grid) {
            here.join(OR_BACK_HOW, grid, grid);
            int met = 0;
            int sets = 0;
            for (int node = 0; node < here.size; node++) {
                if ((met >> node & 1) == 0) {
                    met |= allFrom(here, node);
                    sets++;
                }
            }
            return sets;
        }
    }

    /** What a STORE tells. */
    private static final class Plan {
        static final int MOST_PARTS = 256;

        // a part below 10 is the number of a RELATION
        static final int SAME_PART = 10;
        static final int ALL_PART = 11;
        static final int BACK_PART = 12;
        static final int JOIN_PART = 20;
        static final int NAMED_PART = 30;

        int levels;
        int relations;
        int told;
        int drift;
        int draw;
        int units;
        final Formula keep = new Formula();
        final long[] names = new long[MOST_RELATIONS];
        final Grid[] grids = new Grid[MOST_RELATIONS];
        // the x of all DERIVED ones, one behind the other: what is joined, then how, then which one that is
        final int[] xParts = new int[MOST_PARTS];
        int xMany;

        Plan() {
            for (int rel = 0; rel < MOST_RELATIONS; rel++) {
                grids[rel] = new Grid();
            }
            clear();
        }

        void clear() {
            levels = LEVELS_UNTOLD;
            relations = 0;
            told = 0;
            drift = 0;
            draw = 0;
            units = 0;
            xMany = 0;
            keep.clear();
        }

        int size() {
            return 1 << levels;
        }

        boolean isTold(int rel) {
            return (told >> rel & 1) == 1;
        }

        boolean isFull() {
            return relations >= MOST_RELATIONS;
        }

        /** The one that is told next; it counts, and its NAME is known, from finish() on. */
        Grid begin() {
            Grid grid = grids[Math.min(relations, MOST_RELATIONS - 1)];
            grid.clear(size());
            return grid;
        }

        void finish(long name, boolean isTold) {
            if (isFull()) {
                return;
            }
            if (isTold) {
                told |= 1 << relations;
            } else {
                addPart(NAMED_PART + relations);
            }
            names[relations] = name;
            relations++;
        }

        int find(long name) {
            for (int rel = 0; rel < relations && rel < MOST_RELATIONS; rel++) {
                if (names[rel] == name) {
                    return rel;
                }
            }
            return NONE;
        }

        void addPart(int part) {
            if (xMany < MOST_PARTS) {
                xParts[xMany] = part;
                xMany++;
            }
        }
    }

    /** The formula of keep: what is reckoned with, then how, as a row of parts. */
    private static final class Formula {
        private static final int MOST_PARTS = 320;
        private static final int MOST_OPEN = 32;

        private final int[] line = new int[MOST_PARTS];
        private int many;
        private final int[] open = new int[MOST_OPEN];

        void clear() {
            many = 0;
        }

        /** A number is kept below 0, so that it can't be taken for a word or a sign. */
        void addNumber(int number) {
            addPart(-1 - number);
        }

        void addPart(int part) {
            if (many < MOST_PARTS) {
                line[many] = part;
                many++;
            }
        }

        int work(int row, int column, int pairs) {
            if (many == 0) {
                return 1;
            }
            int top = 0;
            for (int at = 0; at < many; at++) {
                int part = line[at];
                if (isUnit(part)) {
                    if (top < MOST_OPEN) {
                        open[top] = unitWorth(part, row, column, pairs);
                        top++;
                    }
                } else if (part == Scanner.NOT) {
                    if (top > 0) {
                        open[top - 1] = open[top - 1] == 0 ? 1 : 0;
                    }
                } else if (top > 1) {
                    top--;
                    open[top - 1] = reckon(part, open[top - 1], open[top]);
                }
            }
            return open[0];
        }

        private static boolean isUnit(int part) {
            return part < 0 || part == Scanner.ROW || part == Scanner.COLUMN || part == Scanner.MANY;
        }

        private static int unitWorth(int part, int row, int column, int pairs) {
            switch (part) {
                case Scanner.ROW:
                    return row;
                case Scanner.COLUMN:
                    return column;
                case Scanner.MANY:
                    return pairs;
                default:
                    return -1 - part;
            }
        }

        private static int reckon(int sign, int left, int right) {
            switch (sign) {
                case '+':
                    return left + right;
                case '-':
                    return left - right;
                case '*':
                    return left * right;
                case '/':
                    return right == 0 ? 0 : left / right;
                case '%':
                    return right == 0 ? 0 : left % right;
                case '<':
                    return left < right ? 1 : 0;
                case '>':
                    return left > right ? 1 : 0;
                case '=':
                    return left == right ? 1 : 0;
                case Scanner.AND:
                    return left != 0 && right != 0 ? 1 : 0;
                default:
                    return left != 0 || right != 0 ? 1 : 0;
            }
        }
    }

    /** The TOKENS of a text, one at a time. */
    private static final class Scanner {
        static final int NO_TOKEN = 1;
        static final int AT_END = 2;
        static final int NUMBER = 3;
        static final int NAME = 4;
        // a sign is its own kind (37 .. 62); a word's kind is its place in WORDS
        static final int LEVELS = 100;
        static final int REL = 101;
        static final int HAS = 102;
        static final int IS = 103;
        static final int KEEP = 104;
        static final int DRIFT = 105;
        static final int DRAW = 106;
        static final int OR = 107;
        static final int LESS = 108;
        static final int AND = 109;
        static final int THEN = 110;
        static final int BACK = 111;
        static final int SAME = 112;
        static final int ALL = 113;
        static final int NOT = 114;
        static final int ROW = 115;
        static final int COLUMN = 116;
        static final int MANY = 117;

        private static final int WORD_COUNT = 18;
        private static final int MOST_LETTERS = 8;
        private static final int MOST_DIGITS = 4;
        private static final String WORDS =
            "levels rel has is keep drift draw or less and then back same all not row column many ";
        private static final String SIGNS = ";()<>=+-*/%";

        int kind;
        int place;
        int number;
        long name;

        private final long[] words = new long[WORD_COUNT];
        private byte[] text;
        private int length;
        private int next;
        private boolean halted;

        Scanner() {
            int word = 0;
            for (int at = 0; at < WORDS.length() && word < WORD_COUNT; at++) {
                char letter = WORDS.charAt(at);
                if (letter == ' ') {
                    word++;
                } else {
                    words[word] = words[word] << 8 | letter;
                }
            }
        }

        void begin(byte[] newText, int newLength) {
            text = newText;
            length = newText == null ? 0 : Math.max(0, Math.min(newLength, newText.length));
            next = 0;
            halted = false;
            step();
        }

        /** No more TOKENS come, so that whoever reads on comes to an end at once. */
        void halt() {
            halted = true;
            kind = NO_TOKEN;
        }

        void step() {
            if (halted) {
                return;
            }
            while (next < length && isBlank(text[next])) {
                next++;
            }
            place = next;
            if (next >= length) {
                kind = AT_END;
            } else if (isLetter(text[next])) {
                readWord();
            } else if (isDigit(text[next])) {
                readNumber();
            } else {
                readSign();
            }
        }

        private void readSign() {
            // a byte above 127 is below 0 here, and no sign
            int sign = text[next];
            kind = sign >= 0 && SIGNS.indexOf((char) sign) >= 0 ? sign : NO_TOKEN;
            next++;
        }

        private void readWord() {
            long letters = 0;
            while (next < length && isLetter(text[next])) {
                letters = letters << 8 | text[next];
                next++;
            }
            name = letters;
            kind = NAME;
            for (int word = 0; word < WORD_COUNT; word++) {
                if (words[word] == letters) {
                    kind = LEVELS + word;
                }
            }
            if (next - place > MOST_LETTERS) {
                kind = NO_TOKEN;
            }
        }

        private void readNumber() {
            int sum = 0;
            while (next < length && isDigit(text[next])) {
                sum = sum * 10 + text[next] - '0';
                next++;
            }
            number = sum;
            boolean isTooLong = next - place > MOST_DIGITS;
            boolean hasLetterBehind = next < length && isLetter(text[next]);
            kind = isTooLong || hasLetterBehind ? NO_TOKEN : NUMBER;
        }

        private static boolean isBlank(int sign) {
            return sign == 32 || sign == 10;
        }

        private static boolean isLetter(int sign) {
            return sign >= 'a' && sign <= 'z';
        }

        private static boolean isDigit(int sign) {
            return sign >= '0' && sign <= '9';
        }
    }

    /** Makes a Plan of a text, or finds its first FAULT. */
    private static final class Reader {
        private static final int NO_TOKEN_THERE = 1;
        private static final int CANNOT_STAND = 2;
        private static final int TOLD_ALREADY = 3;
        private static final int CANNOT_BE = 4;
        private static final int NOT_TOLD_AHEAD = 5;

        private static final int MOST_PAIRS_TOLD = 40;
        private static final int MOST_LEAVES = 30;
        private static final int MOST_OTHERS_IN_X = 5;
        private static final int MOST_UNITS = 30;
        private static final int MOST_OTHERS_IN_E = 6;
        private static final int MOST_NUMBER = 9999;

        int fault;
        int faultPlace = NONE;

        private final Scanner scanner = new Scanner();
        private Plan plan;
        private int linesTold;
        private int leaves;

        boolean read(byte[] text, int length, Plan into) {
            plan = into;
            plan.clear();
            fault = 0;
            faultPlace = NONE;
            linesTold = 0;
            leaves = 0;
            scanner.begin(text, length);
            for (int line = 0; line < MOST_BYTES && fault == 0 && scanner.kind != Scanner.AT_END; line++) {
                switch (scanner.kind) {
                    case Scanner.LEVELS:
                        readLevels();
                        break;
                    case Scanner.REL:
                        readRelation();
                        break;
                    case Scanner.KEEP:
                        startLineOnce();
                        readOrs(0);
                        break;
                    case Scanner.DRIFT:
                        startLineOnce();
                        plan.drift = readNumber(0, 100);
                        break;
                    case Scanner.DRAW:
                        startLineOnce();
                        plan.draw = readNumber(0, 999);
                        break;
                    default:
                        fail(CANNOT_STAND);
                }
                expect(';');
            }
            return fault == 0;
        }

        /** Only the first one counts: all is read in the order of its places. */
        private void fail(int newFault) {
            if (fault == 0) {
                // at one place the least one is told
                fault = scanner.kind == Scanner.NO_TOKEN ? NO_TOKEN_THERE : newFault;
                faultPlace = scanner.place;
                scanner.halt();
            }
        }

        private void expect(int kind) {
            if (scanner.kind == kind) {
                scanner.step();
            } else {
                fail(CANNOT_STAND);
            }
        }

        private int readNumber(int least, int most) {
            int number = scanner.number;
            if (scanner.kind != Scanner.NUMBER) {
                fail(CANNOT_STAND);
            } else if (number < least || number > most) {
                fail(CANNOT_BE);
            } else {
                scanner.step();
                return number;
            }
            return least;
        }

        private void startLineOnce() {
            int line = 1 << scanner.kind - Scanner.LEVELS;
            if ((linesTold & line) != 0) {
                fail(CANNOT_STAND);
            }
            linesTold |= line;
            scanner.step();
        }

        private void readLevels() {
            if (plan.relations > 0) {
                fail(CANNOT_STAND);
                return;
            }
            startLineOnce();
            plan.levels = readNumber(1, MOST_LEVELS);
        }

        private void readRelation() {
            if (plan.isFull()) {
                fail(CANNOT_STAND);
                return;
            }
            scanner.step();
            long name = scanner.name;
            readNewName();
            boolean isTold = scanner.kind == Scanner.HAS;
            Grid grid = plan.begin();
            if (isTold) {
                scanner.step();
                readPairs(grid);
            } else {
                expect(Scanner.IS);
                readJoined(0);
            }
            plan.finish(name, isTold);
        }

        private void readNewName() {
            if (scanner.kind != Scanner.NAME) {
                fail(CANNOT_STAND);
            } else if (plan.find(scanner.name) != NONE) {
                fail(TOLD_ALREADY);
            } else {
                scanner.step();
            }
        }

        private void readPairs(Grid into) {
            int last = plan.size() - 1;
            for (int many = 0; many < MOST_PAIRS_TOLD && scanner.kind == Scanner.NUMBER; many++) {
                int row = readNumber(0, last);
                int column = readNumber(0, last);
                into.add(row, column);
            }
            if (scanner.kind == Scanner.NUMBER) {
                fail(CANNOT_STAND);
            }
        }

        // ---- x: what a DERIVED one is

        private void readJoined(int others) {
            readMet(others);
            for (int more = 0; more < MOST_BYTES && isOrOrLess(scanner.kind); more++) {
                int how = scanner.kind == Scanner.OR ? OR_HOW : LESS_HOW;
                scanner.step();
                readMet(others);
                plan.addPart(Plan.JOIN_PART + how);
            }
        }

        private static boolean isOrOrLess(int kind) {
            return kind == Scanner.OR || kind == Scanner.LESS;
        }

        private void readMet(int others) {
            readOne(others);
            for (int more = 0; more < MOST_BYTES && isAndOrThen(scanner.kind); more++) {
                int how = scanner.kind == Scanner.AND ? AND_HOW : THEN_HOW;
                scanner.step();
                readOne(others);
                plan.addPart(Plan.JOIN_PART + how);
            }
        }

        private static boolean isAndOrThen(int kind) {
            return kind == Scanner.AND || kind == Scanner.THEN;
        }

        private void readOne(int others) {
            if (others > MOST_OTHERS_IN_X) {
                fail(CANNOT_STAND);
                return;
            }
            switch (scanner.kind) {
                case Scanner.BACK:
                    scanner.step();
                    readOne(others + 1);
                    plan.addPart(Plan.BACK_PART);
                    break;
                case '(':
                    scanner.step();
                    readJoined(others + 1);
                    expect(')');
                    break;
                case Scanner.SAME:
                    readLeaf(Plan.SAME_PART);
                    break;
                case Scanner.ALL:
                    readLeaf(Plan.ALL_PART);
                    break;
                case Scanner.NAME:
                    readLeaf(plan.find(scanner.name));
                    break;
                default:
                    fail(CANNOT_STAND);
            }
        }

        private void readLeaf(int part) {
            if (leaves >= MOST_LEAVES) {
                fail(CANNOT_STAND);
            } else if (part == NONE) {
                fail(NOT_TOLD_AHEAD);
            } else {
                leaves++;
                plan.addPart(part);
                scanner.step();
            }
        }

        // ---- e: which pairs are to be kept

        private void readOrs(int others) {
            readAnds(others);
            for (int more = 0; more < MOST_BYTES && scanner.kind == Scanner.OR; more++) {
                scanner.step();
                readAnds(others);
                plan.keep.addPart(Scanner.OR);
            }
        }

        private void readAnds(int others) {
            readNots(others);
            for (int more = 0; more < MOST_BYTES && scanner.kind == Scanner.AND; more++) {
                scanner.step();
                readNots(others);
                plan.keep.addPart(Scanner.AND);
            }
        }

        private void readNots(int others) {
            if (scanner.kind != Scanner.NOT) {
                readCompared(others);
            } else if (others > MOST_OTHERS_IN_E) {
                fail(CANNOT_STAND);
            } else {
                scanner.step();
                readNots(others + 1);
                plan.keep.addPart(Scanner.NOT);
            }
        }

        private void readCompared(int others) {
            readSum(others);
            int sign = scanner.kind;
            if (sign == '<' || sign == '>' || sign == '=') {
                scanner.step();
                readSum(others);
                plan.keep.addPart(sign);
            }
        }

        private void readSum(int others) {
            readTerm(others);
            int sign = scanner.kind;
            for (int more = 0; more < MOST_BYTES && (sign == '+' || sign == '-'); more++) {
                scanner.step();
                readTerm(others);
                plan.keep.addPart(sign);
                sign = scanner.kind;
            }
        }

        private void readTerm(int others) {
            readUnit(others);
            int sign = scanner.kind;
            for (int more = 0; more < MOST_BYTES && (sign == '*' || sign == '/' || sign == '%'); more++) {
                scanner.step();
                readUnit(others);
                plan.keep.addPart(sign);
                sign = scanner.kind;
            }
        }

        private void readUnit(int others) {
            if (plan.units >= MOST_UNITS) {
                fail(CANNOT_STAND);
                return;
            }
            plan.units++;
            switch (scanner.kind) {
                case Scanner.NUMBER:
                    plan.keep.addNumber(readNumber(0, MOST_NUMBER));
                    break;
                case Scanner.ROW:
                case Scanner.COLUMN:
                case Scanner.MANY:
                    plan.keep.addPart(scanner.kind);
                    scanner.step();
                    break;
                case '(':
                    readBracket(others);
                    break;
                default:
                    fail(CANNOT_STAND);
            }
        }

        private void readBracket(int others) {
            if (others > MOST_OTHERS_IN_E) {
                fail(CANNOT_STAND);
                return;
            }
            scanner.step();
            readOrs(others + 1);
            expect(')');
        }
    }

    /** The RELATIONS as they are now, and the SEED. */
    private static final class Relations {
        private static final int MOST_OPEN = 16;

        final Grid[] grids = new Grid[MOST_RELATIONS];
        int seed;

        private Plan plan;
        private final Grid[] open = new Grid[MOST_OPEN];
        private final Grid spare = new Grid();

        Relations() {
            for (int rel = 0; rel < MOST_RELATIONS; rel++) {
                grids[rel] = new Grid();
            }
            for (int at = 0; at < MOST_OPEN; at++) {
                open[at] = new Grid();
            }
        }

        void begin(Plan newPlan) {
            plan = newPlan;
            seed = newPlan.draw;
            for (int rel = 0; rel < newPlan.relations; rel++) {
                grids[rel].copyFrom(newPlan.grids[rel]);
            }
            derive();
        }

        int countTold() {
            int many = 0;
            for (int rel = 0; plan != null && rel < plan.relations; rel++) {
                if (plan.isTold(rel)) {
                    many += grids[rel].count();
                }
            }
            return many;
        }

        /** A change turns the same pairs when it is done and when it is taken back. */
        void turnAll(int rel, int[] pairs, int newSeed) {
            seed = newSeed;
            if (rel < 0 || rel >= MOST_RELATIONS) {
                return;
            }
            for (int row = 0; row < MOST_SIZE && row < pairs.length; row++) {
                grids[rel].rows[row] ^= pairs[row];
            }
        }

        /** All DERIVED ones anew, in their order: each one is made of such as were told ahead. */
        void derive() {
            int top = 0;
            for (int at = 0; plan != null && at < plan.xMany && at < Plan.MOST_PARTS; at++) {
                int part = plan.xParts[at];
                top = part < Plan.BACK_PART ? openPart(part, top) : workPart(part, top);
            }
        }

        private int openPart(int part, int top) {
            if (top < 0 || top >= MOST_OPEN) {
                return top;
            }
            if (part == Plan.SAME_PART) {
                open[top].fillSame(plan.size());
            } else if (part == Plan.ALL_PART) {
                open[top].fillAll(plan.size());
            } else if (part >= 0 && part < MOST_RELATIONS) {
                open[top].copyFrom(grids[part]);
            }
            return top + 1;
        }

        private int workPart(int part, int top) {
            if (part == Plan.BACK_PART && top > 0) {
                spare.changeOver(open[top - 1]);
                open[top - 1].copyFrom(spare);
            } else if (part >= Plan.JOIN_PART && part < Plan.NAMED_PART && top > 1) {
                spare.join(part - Plan.JOIN_PART, open[top - 2], open[top - 1]);
                open[top - 2].copyFrom(spare);
                return top - 1;
            } else if (part >= Plan.NAMED_PART && part < Plan.NAMED_PART + MOST_RELATIONS && top > 0) {
                grids[part - Plan.NAMED_PART].copyFrom(open[top - 1]);
                return top - 1;
            }
            return top;
        }
    }

    /** The ACTS that can be taken back or done again; the oldest give way. */
    private static final class History {
        int kept;
        int done;

        private int oldest;
        private final int[] rels = new int[MOST_ACTS];
        private final int[][] turned = new int[MOST_ACTS][MOST_SIZE];
        private final int[] seedsBefore = new int[MOST_ACTS];
        private final int[] seedsAfter = new int[MOST_ACTS];

        void forget() {
            kept = 0;
            done = 0;
            oldest = 0;
        }

        private int slotOf(int act) {
            return (oldest + act) % MOST_ACTS;
        }

        /** An ACT that is still to be done, in the place of all that could have been done again. */
        void add(int rel, Relations now, Grid after, int seed) {
            if (done >= MOST_ACTS) {
                oldest = slotOf(1);
                done = MOST_ACTS - 1;
            }
            int slot = slotOf(done);
            rels[slot] = rel;
            seedsBefore[slot] = now.seed;
            seedsAfter[slot] = seed;
            for (int row = 0; row < MOST_SIZE && rel >= 0 && rel < MOST_RELATIONS; row++) {
                turned[slot][row] = now.grids[rel].rows[row] ^ after.rows[row];
            }
            kept = done + 1;
        }

        boolean goOn(Relations relations) {
            if (done >= kept) {
                return false;
            }
            int slot = slotOf(done);
            relations.turnAll(rels[slot], turned[slot], seedsAfter[slot]);
            done++;
            return true;
        }

        boolean goBack(Relations relations) {
            if (done <= 0) {
                return false;
            }
            done--;
            int slot = slotOf(done);
            relations.turnAll(rels[slot], turned[slot], seedsBefore[slot]);
            return true;
        }
    }

    /** What was kept of all TOLD ones at one time. */
    private static final class Box {
        boolean full;

        private int seed;
        private final Grid[] grids = new Grid[MOST_RELATIONS];

        Box() {
            for (int rel = 0; rel < MOST_RELATIONS; rel++) {
                grids[rel] = new Grid();
            }
        }

        void keep(Relations relations) {
            full = true;
            seed = relations.seed;
            for (int rel = 0; rel < MOST_RELATIONS; rel++) {
                grids[rel].copyFrom(relations.grids[rel]);
            }
        }

        /** DERIVED ones come back too, as they follow from the TOLD ones. */
        void giveBack(Relations relations) {
            relations.seed = seed;
            for (int rel = 0; rel < MOST_RELATIONS; rel++) {
                relations.grids[rel].copyFrom(grids[rel]);
            }
        }
    }

    /** What is SEEN of RELATION 0 as it was told, and the TIME. */
    private static final class Sightings {
        int time;
        int many;

        private boolean open;
        private int levels;
        private final Grid first = new Grid();
        private final int[] seenLevels = new int[MOST_SEEN];
        private final int[] seenBlocks = new int[MOST_SEEN];
        private final int[] seenPairs = new int[MOST_SEEN];
        private final int[] pairsAsTold = new int[MOST_SEEN];
        private final boolean[] wasSo = new boolean[MOST_SEEN];
        private final int[] toldAt = new int[MOST_SEEN];
        private final int[] untoldAt = new int[MOST_SEEN];
        // the FITS: whether none may have been turned, and the pairs one of which may have been
        private boolean noneFits;
        private final Grid fitting = new Grid();
        private final Grid takenOut = new Grid();
        private final Grid putIn = new Grid();

        void begin(Plan plan, Grid relation) {
            many = 0;
            open = plan.relations > 0;
            levels = plan.levels;
            first.copyFrom(relation);
        }

        int tell(int level, int block, int pairs, boolean is) {
            if (many >= MOST_SEEN) {
                return NONE;
            }
            seenLevels[many] = level;
            seenBlocks[many] = block;
            seenPairs[many] = pairs;
            pairsAsTold[many] = first.countInBlock(block, level, levels);
            wasSo[many] = is;
            toldAt[many] = time;
            untoldAt[many] = NONE;
            many++;
            return many - 1;
        }

        boolean takeBack(int seen) {
            if (seen < 0 || seen >= many || untoldAt[seen] != NONE) {
                return false;
            }
            untoldAt[seen] = time;
            return true;
        }

        private void gatherFits(int k) {
            noneFits = open;
            fitting.fillAll(open ? first.size : 0);
            for (int seen = 0; seen < many; seen++) {
                boolean isUntold = untoldAt[seen] != NONE && untoldAt[seen] <= k;
                if (toldAt[seen] <= k && !isUntold) {
                    dropUnfit(seen);
                }
            }
        }

        private void dropUnfit(int seen) {
            boolean fitsAsTold = fitsWith(seen, pairsAsTold[seen]);
            boolean fitsWithLess = fitsWith(seen, pairsAsTold[seen] - 1);
            boolean fitsWithMore = fitsWith(seen, pairsAsTold[seen] + 1);
            int level = seenLevels[seen];
            int shift = levels - level;
            int blockRow = seenBlocks[seen] >> level;
            int firstColumn = (seenBlocks[seen] & (1 << level) - 1) << shift;
            int columns = (1 << (1 << shift)) - 1 << firstColumn;
            noneFits = noneFits && fitsAsTold;
            for (int row = 0; row < fitting.size; row++) {
                int inBlock = row >> shift == blockRow ? columns : 0;
                int stays = fitsAsTold ? ~inBlock : 0;
                if (fitsWithLess) {
                    stays |= inBlock & first.rows[row];
                }
                if (fitsWithMore) {
                    stays |= inBlock & ~first.rows[row];
                }
                fitting.rows[row] &= stays;
            }
        }

        private boolean fitsWith(int seen, int pairs) {
            return (pairs == seenPairs[seen]) == wasSo[seen];
        }

        int countFits(int k) {
            gatherFits(k);
            return fitting.count() + (noneFits ? 1 : 0);
        }

        int findFit(int index, int k) {
            gatherFits(k);
            if (index < 0) {
                return NO_SUCH;
            }
            if (noneFits && index == 0) {
                return NONE;
            }
            int found = fitting.findPair(noneFits ? index - 1 : index);
            if (found == NONE) {
                return NO_SUCH;
            }
            return found / MOST_SIZE * first.size + found % MOST_SIZE;
        }

        int bestBlock(int level, int k, boolean tellsMany) {
            int fits = countFits(k);
            if (fits == 0) {
                return NONE;
            }
            takenOut.join(AND_HOW, fitting, first);
            putIn.join(LESS_HOW, fitting, first);
            int best = 0;
            int fewest = fits + 1;
            for (int block = 0; block < 1 << 2 * level; block++) {
                int withLess = takenOut.countInBlock(block, level, levels);
                int withMore = putIn.countInBlock(block, level, levels);
                int left = Math.max(fits - withLess - withMore, Math.max(withLess, withMore));
                if (left < fewest) {
                    fewest = left;
                    best = block;
                }
            }
            return tellsMany ? fewest : best;
        }
    }
}
