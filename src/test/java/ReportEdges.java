/** The boundaries of STEPS and their like (Terms, ==== 3.) and of promises 20, 21, 27 to 38, 40 and 41. */
final class ReportEdges {
    private static final int[] FAR_OUT = {-1, 5, Integer.MIN_VALUE, Integer.MAX_VALUE};
    // in a square of 4: a chain, none, a round, all
    private static final String TEXT = "levels 2;rel a has 0 1 1 2 2 3;rel n has;rel o has 0 1 1 2 2 0;rel f is all;";

    private final Edges edges;

    ReportEdges(Edges edges) {
        this.edges = edges;
    }

    void run() {
        steps();
        closures();
        densestAndParts();
        oddsTold();
        rows();
        columns();
        pair();
        unlike();
        within();
        busiest();
        densest();
        reached();
        far();
        mutual();
        closure();
        settles();
        parts();
        is();
        isRefused();
        odds();
        lies();
    }

    private static String chain(int levels) {
        StringBuilder text = new StringBuilder("levels " + levels + ";rel a has");
        for (int node = 1; node < 1 << levels; node++) {
            text.append(' ').append(node - 1).append(' ').append(node);
        }
        return text + ";";
    }

    private void steps() {
        edges.terms("(By what is now; nothing is done.)");
        PairTree tree = edges.good(TEXT, 4);
        int[] ahead = Edges.about(tree);
        tree.closure(0);
        tree.settles(0);
        tree.would(0, 0, 2, 0);
        tree.relation(0, 4);
        edges.aboutDue("nothing is done", tree, ahead);
        edges.due("pairs", tree.relation(0, 1), 3);
        tree.put(0, 3, 0);
        edges.due("by what is now", tree.reached(0, 3), 15);
        tree.undo();
        edges.due("by what is now", tree.reached(0, 3), 8);
        edges.terms("STEPS go from a row to a column that it has a pair with, which is a row then.");
        edges.due("0, 1, 2, 3", tree.far(0, 0, 3), 3);
        edges.due("not the other way", tree.far(0, 3, 0), -1);
        edges.terms("all to which one comes in any number of STEPS, itself, too.");
        edges.due("itself without a STEP", tree.reached(1, 2), 4);
        edges.due("itself, though no pair leads back", tree.reached(0, 1), 14);
        edges.due("SIZE less 1 STEPS", edges.good(chain(4), 1).reached(0, 0), 65535);
        edges.terms("FAR: by how few.");
        edges.due("itself: none", tree.far(0, 0, 0), 0);
        edges.due("itself, in a round: none", tree.far(2, 0, 0), 0);
        edges.due("the longest way", edges.good(chain(4), 1).far(0, 0, 15), 15);
        edges.due("by the shorter way", tree.far(3, 0, 3), 1);
        edges.terms("MUTUAL: REACHED from one another.");
        edges.due("itself", tree.mutual(1, 3), 8);
        edges.due("a round", tree.mutual(2, 1), 7);
        edges.due("one way alone", tree.mutual(0, 1), 2);
    }

    private void closures() {
        edges.terms("CLOSURE of a RELATION: pairs to which one comes in one STEP or more.");
        PairTree tree = edges.good(TEXT, 4);
        edges.due("a NODE with itself does not count by itself", tree.closure(0), 6);
        edges.due("none", tree.closure(1), 0);
        edges.due("a round has them", tree.closure(2), 9);
        edges.due("all", tree.closure(3), 16);
        edges.terms("It SETTLES behind as many goes as bring something new, if in each go it BECOMES what comes of it or (it then it),"
            + " till one brings nothing.");
        edges.due("none", tree.settles(1), 0);
        edges.due("all", tree.settles(3), 0);
        edges.due("three STEPS", tree.settles(0), 2);
        int[] goes = {0, 2, 3, 4};
        for (int levels = 1; levels <= 4; levels++) {
            edges.due("a chain of levels " + levels, edges.good(chain(levels), 1).settles(0), goes[levels - 1]);
        }
        edges.due("a chain of two STEPS", edges.good("rel a has 0 1 1 2;", 1).settles(0), 1);
        edges.due("one pair", edges.good("rel a has 0 1;", 1).settles(0), 0);
        edges.due("there and back", edges.good("rel a has 0 1 1 0;", 1).settles(0), 1);
        edges.terms("SAVED: SIZE times SIZE less how many BITS there are.");
        edges.due("of none", tree.relation(1, 3), 12);
        edges.due("of all", tree.relation(3, 3), -4);
    }

    private void densestAndParts() {
        edges.terms("DENSEST of a level: the BLOCK with most pairs; of like ones the first (by rows, then columns).");
        PairTree tree = edges.good("levels 2;rel a has 2 0 0 2;rel b has 2 0 0 3 3 0;rel n has;rel c has 3 2 2 3;", 4);
        edges.due("0 2 ahead of 2 0: row", tree.densest(0, 1, 0), 0);
        edges.due("0 2 ahead of 2 0: column", tree.densest(0, 1, 1), 2);
        edges.due("the most: row", tree.densest(1, 1, 0), 2);
        edges.due("the most: column", tree.densest(1, 1, 1), 0);
        edges.due("none: row", tree.densest(2, 2, 0), 0);
        edges.due("none: column", tree.densest(2, 2, 1), 0);
        edges.due("2 3 ahead of 3 2: row", tree.densest(3, 2, 0), 2);
        edges.due("2 3 ahead of 3 2: column", tree.densest(3, 2, 1), 3);
        edges.terms("PARTS: into how many sets all NODES fall that hang together by pairs, either way.");
        tree = edges.good("levels 2;rel a has 0 1 2 1;rel n has;rel o has 0 0 1 1;rel f is all;", 4);
        edges.due("0, 1, 2 hang together", tree.parts(0), 2);
        edges.due("none: each one alone", tree.parts(1), 4);
        edges.due("a NODE with itself: alone", tree.parts(2), 4);
        edges.due("all", tree.parts(3), 1);
        edges.due("a chain", edges.good(chain(4), 1).parts(0), 1);
    }

    private void oddsTold() {
        edges.terms("ODDS: that in n goes no rest is less than drift tells, each of 0 .. 99 being as likely each time");
        PairTree tree = edges.good("rel a has;drift 1;", 1);
        edges.due("99", tree.odds(1, 0), 99);
        edges.due("of 100", tree.odds(1, 1), 100);
        tree = edges.good("rel a has;drift 99;", 1);
        edges.due("1", tree.odds(4, 0), 1);
        edges.due("of 100,000,000", tree.odds(4, 1), 100000000);
        edges.terms("(whatever RELATIONS there are)");
        for (String rels : new String[] {"", "rel a has;", "rel a is all;", "rel a has;rel b is a;rel c has 1 1;"}) {
            tree = edges.good(rels + "drift 50;", rels.split("rel ", -1).length - 1);
            edges.due("1", tree.odds(2, 0), 1);
            edges.due("of 4", tree.odds(2, 1), 4);
        }
    }

    private void rows() {
        edges.promise(20, "How many pairs a row has. Their columns lie there then, the least first");
        PairTree tree = edges.good("rel a has 2 7 2 0 2 5 6 5 7 5;rel f is all;", 2);
        edges.due("three", tree.row(0, 2), 3);
        edges.liesDue("three", tree, 0, 5, 7);
        edges.due("none", tree.row(0, 0), 0);
        edges.liesDue("none", tree);
        edges.due("all", tree.row(1, 7), 8);
        edges.liesDue("all", tree, 0, 1, 2, 3, 4, 5, 6, 7);
        edges.due("sixteen", edges.good("levels 4;rel f is all;", 1).row(0, 0), 16);
        edges.promise(20, "NONE, nothing, if one can't be");
        for (int out : new int[] {-1, 8, 16, 32, Integer.MIN_VALUE, Integer.MAX_VALUE}) {
            tree.row(0, 2);
            edges.due("row " + out, tree.row(0, out), -1);
            edges.liesDue("row " + out, tree);
            tree.row(0, 2);
            edges.due("rel " + out, tree.row(out, 0), -1);
            edges.liesDue("rel " + out, tree);
        }
        edges.due("rel 2", tree.row(2, 0), -1);
    }

    private void columns() {
        edges.promise(21, "How many pairs a column has. Their rows lie there then, likewise");
        PairTree tree = edges.good("rel a has 7 5 2 7 2 0 2 5 6 5;rel f is all;", 2);
        edges.due("three", tree.column(0, 5), 3);
        edges.liesDue("three", tree, 2, 6, 7);
        edges.due("none", tree.column(0, 1), 0);
        edges.liesDue("none", tree);
        edges.due("all", tree.column(1, 0), 8);
        edges.liesDue("all", tree, 0, 1, 2, 3, 4, 5, 6, 7);
        for (int out : new int[] {-1, 8, 16, 32, Integer.MIN_VALUE, Integer.MAX_VALUE}) {
            tree.column(0, 5);
            edges.due("column " + out, tree.column(0, out), -1);
            edges.liesDue("column " + out, tree);
            tree.column(0, 5);
            edges.due("rel " + out, tree.column(out, 0), -1);
            edges.liesDue("rel " + out, tree);
        }
        edges.due("rel 2", tree.column(2, 0), -1);
    }

    private void pair() {
        edges.promise(27, "The i-th pair (0 ..; by rows, then columns) what 0: its row, 1: its column");
        PairTree tree = edges.good("levels 4;rel a has 15 0 0 15 0 3 15 15;rel n has;rel f is all;", 3);
        int[][] due = {{0, 3}, {0, 15}, {15, 0}, {15, 15}};
        for (int i = 0; i < due.length; i++) {
            edges.due("row of " + i, tree.pair(0, i, 0), due[i][0]);
            edges.due("column of " + i, tree.pair(0, i, 1), due[i][1]);
        }
        edges.due("the last of all: row", tree.pair(2, 255, 0), 15);
        edges.due("the last of all: column", tree.pair(2, 255, 1), 15);
        edges.promise(27, "NONE if there is none such, or for another what");
        edges.due("behind the last", tree.pair(0, 4, 0), -1);
        edges.due("behind the last: column", tree.pair(0, 4, 1), -1);
        edges.due("of none", tree.pair(1, 0, 0), -1);
        edges.due("behind the last of all", tree.pair(2, 256, 0), -1);
        edges.due("what 2", tree.pair(0, 0, 2), -1);
        edges.due("rel 3", tree.pair(3, 0, 0), -1);
        for (int out : FAR_OUT) {
            edges.due("i " + out, tree.pair(0, out, 0), -1);
            edges.due("what " + out, tree.pair(0, 0, out), -1);
            edges.due("rel " + out, tree.pair(out, 0, 0), -1);
        }
    }

    private void unlike() {
        edges.promise(28, "How many pairs just one of two has");
        PairTree tree = edges.good(TEXT, 4);
        edges.due("itself", tree.unlike(0, 0), 0);
        edges.due("one of each", tree.unlike(0, 2), 2);
        edges.due("none and a", tree.unlike(1, 0), 3);
        edges.due("a and none", tree.unlike(0, 1), 3);
        edges.due("none and all", tree.unlike(1, 3), 16);
        edges.due("none and none", tree.unlike(1, 1), 0);
        edges.promise(28, "NONE if one can't be");
        for (int out : new int[] {-1, 4, 5, Integer.MIN_VALUE, Integer.MAX_VALUE}) {
            edges.due("one " + out, tree.unlike(out, 0), -1);
            edges.due("other " + out, tree.unlike(0, out), -1);
        }
    }

    private void within() {
        edges.promise(29, "Whether each pair of one is one of the other one's, too: 1, 0");
        PairTree tree = edges.good(TEXT, 4);
        edges.due("itself", tree.within(0, 0), 1);
        edges.due("none in a", tree.within(1, 0), 1);
        edges.due("none in none", tree.within(1, 1), 1);
        edges.due("a in none", tree.within(0, 1), 0);
        edges.due("a in all", tree.within(0, 3), 1);
        edges.due("all in a", tree.within(3, 0), 0);
        edges.due("all but one", tree.within(0, 2), 0);
        edges.promise(29, "NONE if one can't be");
        for (int out : new int[] {-1, 4, 5, Integer.MIN_VALUE, Integer.MAX_VALUE}) {
            edges.due("one " + out, tree.within(out, 0), -1);
            edges.due("other " + out, tree.within(0, out), -1);
        }
    }

    private void busiest() {
        edges.promise(30, "The row (what 0), the column (1) with most pairs; of like ones the first");
        PairTree tree = edges.good("levels 2;rel a has 3 3 3 2 2 3;rel n has;rel b has 1 2 2 1;rel f is all;", 4);
        edges.due("the last row", tree.busiest(0, 0), 3);
        edges.due("the last column", tree.busiest(0, 1), 3);
        edges.due("none: row", tree.busiest(1, 0), 0);
        edges.due("none: column", tree.busiest(1, 1), 0);
        edges.due("like ones: row", tree.busiest(2, 0), 1);
        edges.due("like ones: column", tree.busiest(2, 1), 1);
        edges.due("all", tree.busiest(3, 0), 0);
        tree = edges.good("levels 2;rel a has 3 0 3 1 0 1 2 1;rel b has;rel c has 0 3;rel d has;", 4);
        edges.due("of a, row", tree.busiest(0, 0), 3);
        edges.due("of a, column", tree.busiest(0, 1), 1);
        edges.due("of one pair, row", tree.busiest(2, 0), 0);
        edges.due("of one pair, column", tree.busiest(2, 1), 3);
        tree = edges.good("levels 4;rel a has 15 14 15 15 14 15;", 1);
        edges.due("the last of 16 rows", tree.busiest(0, 0), 15);
        edges.due("the last of 16 columns", tree.busiest(0, 1), 15);
        edges.promise(30, "NONE if one can't be, or for another what");
        edges.due("rel 4", tree.busiest(4, 0), -1);
        edges.due("what 2", tree.busiest(0, 2), -1);
        for (int out : FAR_OUT) {
            edges.due("rel " + out, tree.busiest(out, 0), -1);
            edges.due("what " + out, tree.busiest(0, out), -1);
        }
    }

    private void densest() {
        edges.promise(31, "DENSEST of a level (0 .. levels) what 0: its first row, 1: its first column, 2: how many pairs");
        PairTree tree = edges.good("rel a has 7 7 6 7 7 6 1 4;rel n has;rel f is all;", 3);
        int[][] due = {{0, 0, 4}, {4, 4, 3}, {6, 6, 3}, {1, 4, 1}};
        int[] ofAll = {64, 16, 4, 1};
        for (int level = 0; level <= 3; level++) {
            for (int what = 0; what <= 2; what++) {
                edges.due("level " + level + " what " + what, tree.densest(0, level, what), due[level][what]);
                edges.due("none: level " + level + " what " + what, tree.densest(1, level, what), 0);
                edges.due("all: level " + level + " what " + what, tree.densest(2, level, what), what == 2 ? ofAll[level] : 0);
            }
        }
        PairTree large = edges.good("levels 4;rel a has 15 15;", 1);
        for (int level = 0; level <= 4; level++) {
            int first = 16 - (16 >> level);
            edges.due("the last of 16 rows, level " + level, large.densest(0, level, 0), first);
            edges.due("the last of 16 columns, level " + level, large.densest(0, level, 1), first);
            edges.due("one pair, level " + level, large.densest(0, level, 2), 1);
        }
        edges.promise(31, "NONE if one can't be, or for another what");
        edges.due("level 4", tree.densest(0, 4, 0), -1);
        edges.due("what 3", tree.densest(0, 0, 3), -1);
        edges.due("rel 3", tree.densest(3, 0, 0), -1);
        for (int out : FAR_OUT) {
            edges.due("level " + out, tree.densest(0, out, 0), -1);
            edges.due("what " + out, tree.densest(0, 0, out), -1);
            edges.due("rel " + out, tree.densest(out, 0, 0), -1);
        }
    }

    private void reached() {
        edges.promise(32, "REACHED, as bits");
        PairTree tree = edges.good("levels 4;rel a has 0 15;rel n has;rel f is all;", 3);
        edges.due("the first and the last", tree.reached(0, 0), 1 + (1 << 15));
        edges.due("the last alone", tree.reached(0, 15), 1 << 15);
        edges.due("of all", tree.reached(2, 7), 65535);
        edges.due("of none", tree.reached(1, 0), 1);
        edges.promise(32, "NONE if one can't be");
        for (int out : new int[] {-1, 16, 31, 32, Integer.MIN_VALUE, Integer.MAX_VALUE}) {
            edges.due("from " + out, tree.reached(0, out), -1);
            edges.due("rel " + out, tree.reached(out, 0), -1);
        }
        edges.due("rel 3", tree.reached(3, 0), -1);
    }

    private void far() {
        edges.promise(33, "FAR; NONE if not at all, or one can't be");
        PairTree tree = edges.good("levels 4;rel a has 0 15 15 3;rel n has;", 2);
        edges.due("two", tree.far(0, 0, 3), 2);
        edges.due("not at all", tree.far(0, 3, 0), -1);
        edges.due("itself, of none", tree.far(1, 15, 15), 0);
        edges.due("another one, of none", tree.far(1, 15, 14), -1);
        for (int out : new int[] {-1, 16, 31, 32, 47, Integer.MIN_VALUE, Integer.MAX_VALUE}) {
            edges.due("from " + out, tree.far(0, out, 15), -1);
            edges.due("to " + out, tree.far(0, 15, out), -1);
            edges.due("both " + out, tree.far(0, out, out), -1);
            edges.due("rel " + out, tree.far(out, 0, 0), -1);
        }
        edges.due("rel 2", tree.far(2, 0, 0), -1);
    }

    private void mutual() {
        edges.promise(34, "All that are MUTUAL with a NODE, as bits");
        PairTree tree = edges.good("levels 4;rel a has 0 15 15 0 15 3;rel n has;rel f is all;", 3);
        edges.due("there and back", tree.mutual(0, 0), 1 + (1 << 15));
        edges.due("from the last", tree.mutual(0, 15), 1 + (1 << 15));
        edges.due("one way alone", tree.mutual(0, 3), 8);
        edges.due("of none", tree.mutual(1, 15), 1 << 15);
        edges.due("of all", tree.mutual(2, 15), 65535);
        edges.promise(34, "NONE if one can't be");
        for (int out : new int[] {-1, 16, 31, 32, Integer.MIN_VALUE, Integer.MAX_VALUE}) {
            edges.due("node " + out, tree.mutual(0, out), -1);
            edges.due("rel " + out, tree.mutual(out, 0), -1);
        }
        edges.due("rel 3", tree.mutual(3, 0), -1);
    }

    private void closure() {
        edges.promise(35, "How many pairs the CLOSURE has; NONE if there is none such");
        PairTree tree = edges.good(TEXT, 4);
        edges.due("of none", tree.closure(1), 0);
        edges.due("of all", tree.closure(3), 16);
        edges.due("of the longest chain", edges.good(chain(4), 1).closure(0), 120);
        edges.due("rel 4", tree.closure(4), -1);
        for (int out : FAR_OUT) {
            edges.due("rel " + out, tree.closure(out), -1);
        }
    }

    private void settles() {
        edges.promise(36, "Behind how many goes it SETTLES; NONE if there is none such");
        PairTree tree = edges.good(TEXT, 4);
        edges.due("of none", tree.settles(1), 0);
        edges.due("of the longest chain", edges.good(chain(4), 1).settles(0), 4);
        edges.due("of a round of 3", tree.settles(2), 2);
        edges.due("rel 4", tree.settles(4), -1);
        for (int out : FAR_OUT) {
            edges.due("rel " + out, tree.settles(out), -1);
        }
    }

    private void parts() {
        edges.promise(37, "PARTS; NONE if there is none such");
        PairTree tree = edges.good(TEXT, 4);
        edges.due("a chain", tree.parts(0), 1);
        edges.due("none", tree.parts(1), 4);
        edges.due("a round of 3, and one alone", tree.parts(2), 2);
        edges.due("sixteen", edges.good("levels 4;rel n has;", 1).parts(0), 16);
        edges.due("rel 4", tree.parts(4), -1);
        for (int out : FAR_OUT) {
            edges.due("rel " + out, tree.parts(out), -1);
        }
    }

    private void isSo(String pairs, int what, int due) {
        edges.due("'" + pairs + "'", edges.good("levels 1;rel a has" + pairs + ";", 1).is(0, what), due);
    }

    private void is() {
        edges.promise(38, "Whether (1, 0) each row has its own column (what 0)");
        isSo(" 0 0 1 1", 0, 1);
        isSo(" 0 0", 0, 0);
        isSo(" 1 1", 0, 0);
        isSo("", 0, 0);
        edges.promise(38, "with each pair it has the one changed over (1)");
        isSo("", 1, 1);
        isSo(" 0 0", 1, 1);
        isSo(" 0 1", 1, 0);
        isSo(" 1 0", 1, 0);
        isSo(" 0 1 1 0", 1, 1);
        edges.promise(38, "with r, k and k, c it has r, c (2)");
        isSo("", 2, 1);
        isSo(" 0 1", 2, 1);
        isSo(" 0 1 1 0", 2, 0);
        isSo(" 0 1 1 0 0 0", 2, 0);
        isSo(" 0 1 1 0 0 0 1 1", 2, 1);
        edges.promise(38, "no row has two pairs (3)");
        isSo("", 3, 1);
        isSo(" 0 0 1 0", 3, 1);
        isSo(" 0 0 0 1", 3, 0);
        isSo(" 1 0 1 1", 3, 0);
        edges.promise(38, "no column has (4)");
        isSo("", 4, 1);
        isSo(" 0 0 0 1", 4, 1);
        isSo(" 0 0 1 0", 4, 0);
        isSo(" 0 1 1 1", 4, 0);
        edges.promise(38, "each row has one at least (5)");
        isSo("", 5, 0);
        isSo(" 0 0", 5, 0);
        isSo(" 1 0 1 1", 5, 0);
        isSo(" 0 1 1 1", 5, 1);
        // 16 rows: all, same, none, a chain to the last one, all rows to the last one
        PairTree tree = edges.good("levels 4;rel f is all;rel s is same;rel n has;rel c has 14 15 13 14;rel l is all then (s less s or c) less c;", 5);
        int[][] due = {{1, 1, 1, 0, 0, 1}, {1, 1, 1, 1, 1, 1}, {0, 1, 1, 1, 1, 0}, {0, 0, 0, 1, 1, 0}, {0, 0, 0, 0, 0, 1}};
        for (int rel = 0; rel < 5; rel++) {
            for (int what = 0; what < 6; what++) {
                edges.due("of 16 rows, rel " + rel + " what " + what, tree.is(rel, what), due[rel][what]);
            }
        }
    }

    private void isRefused() {
        edges.promise(38, "NONE if there is none such, or for another what");
        PairTree tree = edges.good(TEXT, 4);
        for (int what = 0; what < 6; what++) {
            edges.due("rel 4", tree.is(4, what), -1);
        }
        edges.due("what 6", tree.is(0, 6), -1);
        for (int out : FAR_OUT) {
            edges.due("rel " + out, tree.is(out, 0), -1);
        }
        for (int out : new int[] {-1, Integer.MIN_VALUE, Integer.MAX_VALUE}) {
            edges.due("what " + out, tree.is(0, out), -1);
        }
    }

    private void odds() {
        edges.promise(40, "ODDS (n 0 .. 4) the upper part (0), the lower part (1), in lowest terms (0 of 1)");
        int[] drifts = {0, 1, 25, 96, 100};
        int[][] upper = {{1, 1, 1, 1, 1}, {1, 99, 9801, 970299, 96059601}, {1, 3, 9, 27, 81}, {1, 1, 1, 1, 1}, {1, 0, 0, 0, 0}};
        int[][] lower = {{1, 1, 1, 1, 1}, {1, 100, 10000, 1000000, 100000000}, {1, 4, 16, 64, 256}, {1, 25, 625, 15625, 390625},
            {1, 1, 1, 1, 1}};
        for (int i = 0; i < drifts.length; i++) {
            PairTree tree = edges.good("drift " + drifts[i] + ";", 0);
            for (int n = 0; n <= 4; n++) {
                edges.due("drift " + drifts[i] + ": upper of " + n, tree.odds(n, 0), upper[i][n]);
                edges.due("drift " + drifts[i] + ": lower of " + n, tree.odds(n, 1), lower[i][n]);
            }
        }
        edges.promise(40, "NONE if one can't be");
        PairTree tree = edges.good("drift 100;", 0);
        edges.due("n 5", tree.odds(5, 0), -1);
        edges.due("part 2", tree.odds(1, 2), -1);
        for (int out : FAR_OUT) {
            edges.due("n " + out, tree.odds(out, 0), -1);
            edges.due("part " + out, tree.odds(0, out), -1);
        }
    }

    private void lies() {
        edges.promise(41, "The i-th number of what lies there");
        PairTree tree = edges.good("levels 4;rel f is all;rel n has 3 0;", 2);
        tree.row(0, 5);
        edges.due("the first", tree.lies(0), 0);
        edges.due("the last", tree.lies(15), 15);
        tree.put(1, 5, 5);
        tree.undo();
        edges.due("it stays", tree.lies(15), 15);
        edges.promise(41, "-2 if there is none such");
        edges.due("behind the last", tree.lies(16), -2);
        for (int out : new int[] {-1, Integer.MIN_VALUE, Integer.MAX_VALUE}) {
            edges.due("i " + out, tree.lies(out), -2);
        }
        tree.row(1, 3);
        edges.due("what lay there is gone", tree.lies(1), -2);
        tree.row(1, 4);
        edges.due("nothing", tree.lies(0), -2);
        edges.due("in a new one", new PairTree().lies(0), -2);
    }
}
