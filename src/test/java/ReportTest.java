/** Promises 20 to 22, 27 to 38, 40, 41: what is found of pairs, by STEPS, and ODDS. */
public final class ReportTest {
    private static final Check CHECK = new Check("ReportTest");

    public static void main(String[] args) {
        rowsAndColumns();
        rectangles();
        pairs();
        twoRelations();
        busiestAndDensest();
        steps();
        closures();
        parts();
        kinds();
        odds();
        CHECK.close();
    }

    private static void rowsAndColumns() {
        PairTree tree = CHECK.good("rel a has 2 7 2 0 2 5 6 5;", 1);
        CHECK.due("row 2", tree.row(0, 2), 3);
        CHECK.liesDue("row 2", tree, 0, 5, 7);
        CHECK.due("lies -1", tree.lies(-1), -2);
        CHECK.due("lies max", tree.lies(Integer.MAX_VALUE), -2);
        CHECK.due("column 5", tree.column(0, 5), 2);
        CHECK.liesDue("column 5", tree, 2, 6);
        tree.put(0, 0, 5);
        CHECK.liesDue("what lies there stays", tree, 2, 6);
        CHECK.due("row 3", tree.row(0, 3), 0);
        CHECK.liesDue("row 3", tree);
        int[][] wrong = {{0, 8}, {0, -1}, {1, 0}, {-1, 0}};
        for (int[] w : wrong) {
            tree.row(0, 2);
            CHECK.due("row that can't be", tree.row(w[0], w[1]), -1);
            CHECK.liesDue("nothing", tree);
            tree.row(0, 2);
            CHECK.due("column that can't be", tree.column(w[0], w[1]), -1);
            CHECK.liesDue("nothing", tree);
        }
        tree = CHECK.good("levels 4;rel a is all;", 1);
        CHECK.due("a full column", tree.column(0, 15), 16);
        CHECK.liesDue("a full column", tree, 0, 1, 2, 3, 4, 5, 6, 7, 8, 9, 10, 11, 12, 13, 14, 15);
    }

    private static void rectangles() {
        PairTree tree = CHECK.good("levels 4;rel a has 0 0 0 15 15 0 15 15 7 8;rel b is all;", 2);
        CHECK.due("all", tree.rect(0, 0, 15, 0, 15), 5);
        CHECK.due("one", tree.rect(0, 7, 7, 8, 8), 1);
        CHECK.due("beside", tree.rect(0, 7, 7, 9, 15), 0);
        CHECK.due("last row", tree.rect(0, 15, 15, 0, 15), 2);
        CHECK.due("first column", tree.rect(0, 0, 15, 0, 0), 2);
        CHECK.due("last column", tree.rect(0, 1, 15, 15, 15), 1);
        CHECK.due("of all", tree.rect(1, 3, 6, 2, 11), 40);
    }

    private static void pairs() {
        PairTree tree = CHECK.good("rel a has 7 0 0 7 3 3 3 1;", 1);
        int[][] due = {{0, 7}, {3, 1}, {3, 3}, {7, 0}};
        for (int i = 0; i < 4; i++) {
            CHECK.due("row of " + i, tree.pair(0, i, 0), due[i][0]);
            CHECK.due("column of " + i, tree.pair(0, i, 1), due[i][1]);
        }
        CHECK.due("pair 4", tree.pair(0, 4, 0), -1);
        CHECK.due("pair -1", tree.pair(0, -1, 0), -1);
        CHECK.due("what 2", tree.pair(0, 0, 2), -1);
        CHECK.due("what -1", tree.pair(0, 0, -1), -1);
        CHECK.due("rel 1", tree.pair(1, 0, 0), -1);
        CHECK.due("rel 5", tree.pair(5, 0, 0), -1);
        CHECK.due("pair max", tree.pair(0, Integer.MAX_VALUE, 0), -1);
    }

    private static void twoRelations() {
        PairTree tree = CHECK.good("rel a has 0 1 1 2;rel b has 1 2 2 3 3 4;rel c has;rel d is a or b;", 4);
        CHECK.due("unlike a b", tree.unlike(0, 1), 3);
        CHECK.due("unlike b a", tree.unlike(1, 0), 3);
        CHECK.due("unlike a a", tree.unlike(0, 0), 0);
        CHECK.due("unlike a c", tree.unlike(0, 2), 2);
        CHECK.due("unlike 4", tree.unlike(0, 4), -1);
        CHECK.due("unlike -1", tree.unlike(-1, 0), -1);
        CHECK.due("within a b", tree.within(0, 1), 0);
        CHECK.due("within a d", tree.within(0, 3), 1);
        CHECK.due("within d a", tree.within(3, 0), 0);
        CHECK.due("within c a", tree.within(2, 0), 1);
        CHECK.due("within c c", tree.within(2, 2), 1);
        CHECK.due("within 4", tree.within(4, 0), -1);
        CHECK.due("within -1", tree.within(0, -1), -1);
    }

    private static void busiestAndDensest() {
        PairTree tree = CHECK.good("rel a has 2 1 2 3 4 1 4 6;rel b has;", 2);
        CHECK.due("busiest row", tree.busiest(0, 0), 2);
        CHECK.due("busiest column", tree.busiest(0, 1), 1);
        CHECK.due("of none", tree.busiest(1, 0), 0);
        CHECK.due("of none", tree.busiest(1, 1), 0);
        CHECK.due("what 2", tree.busiest(0, 2), -1);
        CHECK.due("what -1", tree.busiest(0, -1), -1);
        CHECK.due("rel 2", tree.busiest(2, 0), -1);
        int[][] due = {{0, 0, 4}, {0, 0, 2}, {2, 0, 1}, {2, 1, 1}};
        for (int level = 0; level < 4; level++) {
            for (int what = 0; what < 3; what++) {
                CHECK.due("densest " + level + " " + what, tree.densest(0, level, what), due[level][what]);
                CHECK.due("densest of none", tree.densest(1, level, what), 0);
            }
        }
        tree = CHECK.good("levels 2;rel a has 2 1 0 3;", 1);
        CHECK.due("of like ones the first by rows", tree.densest(0, 1, 0), 0);
        CHECK.due("of like ones the first by rows", tree.densest(0, 1, 1), 2);
        CHECK.due("level -1", tree.densest(0, -1, 0), -1);
        CHECK.due("level 3", tree.densest(0, 3, 0), -1);
        CHECK.due("what 3", tree.densest(0, 0, 3), -1);
        CHECK.due("what -1", tree.densest(0, 0, -1), -1);
        CHECK.due("rel 1", tree.densest(1, 0, 0), -1);
    }

    private static void steps() {
        PairTree tree = CHECK.good("levels 4;rel a has 0 1 1 2 2 0 2 15 15 14 14 15 9 9;", 1);
        CHECK.due("reached 0", tree.reached(0, 0), 1 + 2 + 4 + (1 << 14) + (1 << 15));
        CHECK.due("reached 14", tree.reached(0, 14), (1 << 14) + (1 << 15));
        CHECK.due("reached 5", tree.reached(0, 5), 1 << 5);
        CHECK.due("reached 16", tree.reached(0, 16), -1);
        CHECK.due("reached -1", tree.reached(0, -1), -1);
        CHECK.due("reached of 1", tree.reached(1, 0), -1);
        CHECK.due("far 0 14", tree.far(0, 0, 14), 4);
        CHECK.due("far 1 0", tree.far(0, 1, 0), 2);
        CHECK.due("far 0 0", tree.far(0, 0, 0), 0);
        CHECK.due("far 14 0", tree.far(0, 14, 0), -1);
        CHECK.due("far 0 16", tree.far(0, 0, 16), -1);
        CHECK.due("far -1 0", tree.far(0, -1, 0), -1);
        CHECK.due("far -1 15", tree.far(0, -1, 15), -1);
        CHECK.due("far of 1", tree.far(1, 0, 0), -1);
        CHECK.due("mutual 1", tree.mutual(0, 1), 7);
        CHECK.due("mutual 15", tree.mutual(0, 15), (1 << 14) + (1 << 15));
        CHECK.due("mutual 3", tree.mutual(0, 3), 8);
        CHECK.due("mutual 16", tree.mutual(0, 16), -1);
        CHECK.due("mutual of 1", tree.mutual(1, 0), -1);
        StringBuilder chain = new StringBuilder("levels 4;rel a has");
        for (int node = 0; node < 15; node++) {
            chain.append(' ').append(node).append(' ').append(node + 1);
        }
        tree = CHECK.good(chain + ";", 1);
        CHECK.due("the farthest", tree.far(0, 0, 15), 15);
        CHECK.due("reached", tree.reached(0, 0), 65535);
        CHECK.due("closure", tree.closure(0), 120);
        CHECK.due("settles", tree.settles(0), 4);
    }

    private static void closures() {
        PairTree tree = CHECK.good("levels 2;rel a has 0 1 1 2;rel b has;rel c has 0 1 1 0;rel d is same;", 4);
        int[] closures = {3, 0, 4, 4};
        int[] settles = {1, 0, 1, 0};
        for (int rel = 0; rel < 4; rel++) {
            CHECK.due("closure " + rel, tree.closure(rel), closures[rel]);
            CHECK.due("settles " + rel, tree.settles(rel), settles[rel]);
        }
        CHECK.due("closure 4", tree.closure(4), -1);
        CHECK.due("closure -1", tree.closure(-1), -1);
        CHECK.due("settles 4", tree.settles(4), -1);
        CHECK.due("settles -1", tree.settles(-1), -1);
        CHECK.due("nothing is done", tree.relation(0, 1), 2);
    }

    private static void parts() {
        PairTree tree = CHECK.good("rel a has 1 0 2 1 3 4 5 5;rel b has;rel c is all;", 3);
        CHECK.due("parts", tree.parts(0), 5);
        CHECK.due("parts of none", tree.parts(1), 8);
        CHECK.due("parts of all", tree.parts(2), 1);
        CHECK.due("parts of 3", tree.parts(3), -1);
        CHECK.due("parts of -1", tree.parts(-1), -1);
    }

    private static void kinds() {
        PairTree tree = CHECK.good("levels 1;rel none has;rel own is all and all less all or same;"
            + "rel full is all;rel one has 0 1;rel two has 0 0 0 1;", 5);
        int[][] due = {{0, 1, 1, 1, 1, 0}, {1, 1, 1, 1, 1, 1}, {1, 1, 1, 0, 0, 1}, {0, 0, 1, 1, 1, 0}, {0, 0, 1, 0, 1, 0}};
        for (int rel = 0; rel < 5; rel++) {
            for (int what = 0; what < 6; what++) {
                CHECK.due("is(" + rel + ", " + what + ")", tree.is(rel, what), due[rel][what]);
            }
        }
        CHECK.due("what 6", tree.is(0, 6), -1);
        CHECK.due("what -1", tree.is(0, -1), -1);
        CHECK.due("rel 5", tree.is(5, 0), -1);
        tree = CHECK.good("rel a has 0 1 1 2;rel b has 0 1 2 1;", 2);
        CHECK.due("not passing on", tree.is(0, 2), 0);
        CHECK.due("a column with two", tree.is(1, 4), 0);
        CHECK.due("no row with two", tree.is(1, 3), 1);
        tree = CHECK.good("levels 1;rel a has 1 1;rel b has 1 1 1 0;rel c has 0 0 1 0;rel d has 1 0;", 4);
        CHECK.due("row 0 has not its own", tree.is(0, 0), 0);
        CHECK.due("row 0 has none", tree.is(0, 5), 0);
        CHECK.due("row 1 has two", tree.is(1, 3), 0);
        CHECK.due("column 0 has two", tree.is(2, 4), 0);
        CHECK.due("1 0 without 0 1", tree.is(3, 1), 0);
    }

    private static void odds() {
        int[] drifts = {0, 100, 50, 1, 20, 75};
        int[][] upper = {{1, 1, 1, 1, 1}, {1, 0, 0, 0, 0}, {1, 1, 1, 1, 1}, {1, 99, 9801, 970299, 96059601}, {1, 4, 16, 64, 256},
            {1, 1, 1, 1, 1}};
        int[][] lower = {{1, 1, 1, 1, 1}, {1, 1, 1, 1, 1}, {1, 2, 4, 8, 16}, {1, 100, 10000, 1000000, 100000000},
            {1, 5, 25, 125, 625}, {1, 4, 16, 64, 256}};
        for (int i = 0; i < drifts.length; i++) {
            PairTree tree = CHECK.good("drift " + drifts[i] + ";", 0);
            for (int n = 0; n <= 4; n++) {
                CHECK.due("odds upper " + drifts[i] + " " + n, tree.odds(n, 0), upper[i][n]);
                CHECK.due("odds lower " + drifts[i] + " " + n, tree.odds(n, 1), lower[i][n]);
            }
            CHECK.due("odds -1", tree.odds(-1, 0), -1);
            CHECK.due("odds 5", tree.odds(5, 0), -1);
            CHECK.due("part 2", tree.odds(1, 2), -1);
            CHECK.due("part -1", tree.odds(1, -1), -1);
        }
    }
}
