/** The boundaries of BLOCKS and TREES (Terms, ==== 2. and 3.) and of promises 15 to 19, 23 to 26 and 39. */
final class TreeEdges {
    private static final int[] FAR_OUT = {-1, Integer.MIN_VALUE, Integer.MAX_VALUE};
    // 0 0 and 5 6 in a square of 8, and none: the BITS of a are 1001 1000 0100 1000 0010
    private static final String TEXT = "rel a has 0 0 5 6;rel n has;rel f is all;";
    private static final String BITS = "10011000010010000010";

    private final Edges edges;

    TreeEdges(Edges edges) {
        this.edges = edges;
    }

    void run() {
        quarters();
        emptyBlocks();
        treeOrder();
        ranksAndChildren();
        bit();
        rank();
        child();
        place();
        blocks();
        reportLooks();
        looks();
        walked();
        walks();
        productsTold();
        products();
        would();
        law();
    }

    private void quarters() {
        edges.terms("of level 0 the whole square; each BLOCK of a level below levels has four QUARTERS of the next one");
        for (int levels = 1; levels <= 4; levels++) {
            PairTree tree = edges.good("levels " + levels + ";rel a is all;", 1);
            for (int level = 0; level <= levels; level++) {
                edges.due("BLOCKS of level " + level, tree.blocks(0, level), 1 << 2 * level);
                edges.due("pairs in one", tree.densest(0, level, 2), 1 << 2 * (levels - level));
            }
            edges.due("no level behind the last", tree.blocks(0, levels + 1), -1);
        }
        edges.terms("0 of the lesser half of its rows and columns, 1 of its lesser rows and greater columns,"
            + " 2 of its greater rows and lesser columns, 3 of both greater ones");
        for (int levels = 1; levels <= 4; levels++) {
            int half = 1 << levels - 1;
            PairTree tree = edges.good("levels " + levels + ";rel a has;", 1);
            for (int q = 0; q < 4; q++) {
                edges.due("QUARTER " + q + ": first row", tree.place(0, q, 1), q < 2 ? 0 : half);
                edges.due("QUARTER " + q + ": first column", tree.place(0, q, 2), q % 2 == 0 ? 0 : half);
            }
        }
    }

    private void emptyBlocks() {
        edges.terms("A BLOCK is EMPTY if it has no pair.");
        PairTree tree = edges.good("levels 2;rel a has 1 1 2 2;rel n has;", 2);
        int[] ones = {1, 0, 0, 1};
        for (int q = 0; q < 4; q++) {
            edges.due("QUARTER " + q, tree.bit(0, q), ones[q]);
            edges.due("QUARTER " + q + " of none", tree.bit(1, q), 0);
        }
        tree.take(0, 1, 1);
        edges.due("EMPTY then", tree.bit(0, 0), 0);
        edges.due("four BITS fewer", tree.relation(0, 2), 8);
        tree.take(0, 2, 2);
        edges.due("EMPTY all", tree.blocks(0, 0), 0);
        tree.put(1, 3, 0);
        edges.due("not EMPTY then", tree.blocks(1, 0), 1);
    }

    private void treeOrder() {
        edges.terms("level by level from 1 on, for each BLOCK of the level above that is not EMPTY (in the order of its own BITS;");
        PairTree tree = edges.good(TEXT, 3);
        edges.due("how many", tree.relation(0, 2), BITS.length());
        for (int bit = 0; bit < BITS.length(); bit++) {
            edges.due("BIT " + bit, tree.bit(0, bit), BITS.charAt(bit) - '0');
        }
        int[] bitsOfAll = {4, 20, 84, 340};
        for (int levels = 1; levels <= 4; levels++) {
            tree = edges.good("levels " + levels + ";rel a is all;rel b is same;", 2);
            edges.due("of all", tree.relation(0, 2), bitsOfAll[levels - 1]);
            edges.due("of same", tree.relation(1, 2), 4 * ((1 << levels) - 1));
        }
        // 0 2, 1 0, 2 3, 3 1: QUARTERS 0, 1, 2, 3 have one each; their BITS come by BLOCKS, not by rows
        tree = edges.good("levels 2;rel a has 1 0 0 2 3 1 2 3;", 1);
        String bits = "1111" + "0010" + "1000" + "0001" + "0100";
        for (int bit = 0; bit < bits.length(); bit++) {
            edges.due("BIT " + bit, tree.bit(0, bit), bits.charAt(bit) - '0');
        }
        edges.terms("the whole always, be it EMPTY) one for each QUARTER: 1 if that is not EMPTY.");
        for (int levels = 1; levels <= 4; levels++) {
            tree = edges.good("levels " + levels + ";rel a has;", 1);
            edges.due("four BITS of none", tree.relation(0, 2), 4);
            for (int bit = 0; bit < 4; bit++) {
                edges.due("BIT " + bit, tree.bit(0, bit), 0);
            }
            edges.due("no fifth", tree.bit(0, 4), -1);
        }
    }

    private void ranksAndChildren() {
        edges.terms("how many of the BITS up to it (it, too) are 1");
        PairTree tree = edges.good(TEXT, 3);
        edges.due("the first, itself a 1", tree.rank(0, 0), 1);
        edges.due("a 0 behind it", tree.rank(0, 1), 1);
        edges.due("the last", tree.rank(0, 19), 6);
        edges.due("none of none", tree.rank(1, 3), 0);
        edges.terms("CHILD q (0 .. 3) of a BIT that is 1, not of the last level: the BIT of its QUARTER q");
        edges.due("QUARTER 0 of BIT 0", tree.child(0, 0, 0), 4);
        edges.due("QUARTER 3 of BIT 3", tree.child(0, 3, 3), 11);
        edges.due("QUARTER 1 of BIT 9", tree.child(0, 9, 1), 17);
        edges.due("of a 0", tree.child(0, 1, 0), -1);
        edges.due("of the last level", tree.child(0, 12, 0), -1);
        for (int bit = 0; bit < 20; bit++) {
            for (int q = 0; q < 4; q++) {
                int child = tree.child(2, bit, q);
                int half = (tree.place(2, bit, 0) == 1 ? 4 : 2) / 2;
                edges.due("level of a CHILD", tree.place(2, child, 0), tree.place(2, bit, 0) + 1);
                edges.due("its first row", tree.place(2, child, 1), tree.place(2, bit, 1) + q / 2 * half);
                edges.due("its first column", tree.place(2, child, 2), tree.place(2, bit, 2) + q % 2 * half);
            }
        }
    }

    private void bit() {
        PairTree tree = edges.good(TEXT, 3);
        edges.promise(15, "A BIT (from 0 on) of a TREE: 1, 0");
        edges.due("BIT 0", tree.bit(0, 0), 1);
        edges.due("BIT 1", tree.bit(0, 1), 0);
        edges.due("the last", tree.bit(0, 19), 0);
        edges.due("the last of all", tree.bit(2, 83), 1);
        PairTree large = edges.good("levels 4;rel f is all;", 1);
        edges.due("the last of 16 by 16", large.bit(0, 339), 1);
        edges.due("its RANK", large.rank(0, 339), 340);
        edges.due("its row", large.place(0, 339, 1), 15);
        edges.promise(15, "NONE if there is none such");
        edges.due("behind the last of 16 by 16", large.bit(0, 340), -1);
        edges.due("behind the last", tree.bit(0, 20), -1);
        edges.due("behind the last of none", tree.bit(1, 4), -1);
        edges.due("behind the last of all", tree.bit(2, 84), -1);
        edges.due("no RELATION", tree.bit(3, 0), -1);
        edges.due("no RELATION of 5", tree.bit(5, 0), -1);
        for (int out : FAR_OUT) {
            edges.due("BIT " + out, tree.bit(0, out), -1);
            edges.due("rel " + out, tree.bit(out, 0), -1);
        }
        tree.take(0, 5, 6);
        edges.due("it is gone with the pair", tree.bit(0, 12), -1);
    }

    private void rank() {
        PairTree tree = edges.good(TEXT, 3);
        edges.promise(16, "RANK; NONE if there is none such");
        edges.due("the last", tree.rank(0, 19), 6);
        edges.due("behind the last", tree.rank(0, 20), -1);
        edges.due("the last of none", tree.rank(1, 3), 0);
        edges.due("behind the last of none", tree.rank(1, 4), -1);
        edges.due("the last of all", tree.rank(2, 83), 84);
        edges.due("no RELATION", tree.rank(3, 0), -1);
        for (int out : FAR_OUT) {
            edges.due("BIT " + out, tree.rank(0, out), -1);
            edges.due("rel " + out, tree.rank(out, 0), -1);
        }
    }

    private void child() {
        PairTree tree = edges.good(TEXT, 3);
        edges.promise(17, "CHILD q; NONE if there is none such");
        edges.due("of the first", tree.child(2, 0, 0), 4);
        edges.due("of the last that has one", tree.child(2, 19, 3), 83);
        edges.due("of the first that has none", tree.child(2, 20, 0), -1);
        edges.due("of a BIT behind the last", tree.child(0, 20, 0), -1);
        edges.due("of none", tree.child(1, 0, 0), -1);
        edges.due("no RELATION", tree.child(3, 0, 0), -1);
        edges.due("q 4", tree.child(0, 0, 4), -1);
        for (int out : FAR_OUT) {
            edges.due("q " + out, tree.child(0, 0, out), -1);
            edges.due("BIT " + out, tree.child(0, out, 0), -1);
            edges.due("rel " + out, tree.child(out, 0, 0), -1);
        }
        edges.due("one level alone", edges.good("levels 1;rel a is all;", 1).child(0, 0, 0), -1);
    }

    private void place() {
        PairTree tree = edges.good(TEXT, 3);
        edges.promise(18, "Of a BIT what 0: its level, 1: the first row, 2: the first column of its BLOCK");
        edges.due("the first: level", tree.place(0, 0, 0), 1);
        edges.due("a 0 has a place, too: row", tree.place(0, 2, 1), 4);
        edges.due("a 0 has a place, too: column", tree.place(0, 2, 2), 0);
        edges.due("the last: level", tree.place(0, 19, 0), 3);
        edges.due("the last: row", tree.place(0, 19, 1), 5);
        edges.due("the last: column", tree.place(0, 19, 2), 7);
        edges.due("of none: row", tree.place(1, 3, 1), 4);
        edges.promise(18, "NONE if there is none such, or for another what");
        edges.due("behind the last", tree.place(0, 20, 0), -1);
        edges.due("behind the last of none", tree.place(1, 4, 0), -1);
        edges.due("no RELATION", tree.place(3, 0, 0), -1);
        edges.due("what 3", tree.place(0, 0, 3), -1);
        for (int out : FAR_OUT) {
            edges.due("what " + out, tree.place(0, 0, out), -1);
            edges.due("BIT " + out, tree.place(0, out, 0), -1);
            edges.due("rel " + out, tree.place(out, 0, 0), -1);
        }
    }

    private void blocks() {
        PairTree tree = edges.good(TEXT, 3);
        edges.promise(19, "How many BLOCKS of a level (0 .. levels) are not EMPTY");
        int[] ofAll = {1, 4, 16, 64};
        int[] ofTwo = {1, 2, 2, 2};
        for (int level = 0; level <= 3; level++) {
            edges.due("level " + level, tree.blocks(0, level), ofTwo[level]);
            edges.due("level " + level + " of none", tree.blocks(1, level), 0);
            edges.due("level " + level + " of all", tree.blocks(2, level), ofAll[level]);
        }
        edges.promise(19, "NONE if one can't be");
        edges.due("level 4", tree.blocks(0, 4), -1);
        edges.due("no RELATION", tree.blocks(3, 0), -1);
        for (int out : FAR_OUT) {
            edges.due("level " + out, tree.blocks(0, out), -1);
            edges.due("rel " + out, tree.blocks(out, 0), -1);
        }
    }

    private void reportLooks() {
        edges.terms("A REPORT of a rectangle LOOKS AT BITS: from the whole on, of each BLOCK that is not EMPTY (or the whole) and has a place"
            + " in the rectangle those of its QUARTERS that have one.");
        PairTree tree = edges.good(TEXT, 3);
        edges.due("the whole of none", tree.looks(1, 0, 7, 0, 7), 4);
        edges.due("one place of none", tree.looks(1, 7, 7, 0, 0), 1);
        edges.due("two QUARTERS of none", tree.looks(1, 3, 4, 0, 0), 2);
        edges.due("all BITS", tree.looks(0, 0, 7, 0, 7), 20);
        edges.due("all BITS of all", tree.looks(2, 0, 7, 0, 7), 84);
        edges.due("the middle of all", tree.looks(2, 3, 4, 3, 4), 12);
        edges.due("one QUARTER of all, to its edge", tree.looks(2, 0, 3, 0, 3), 1 + 4 + 16);
        edges.due("one row beyond the edge", tree.looks(2, 0, 4, 0, 3), 2 + 4 + 2 + 16 + 4);
        edges.due("where a QUARTER is EMPTY", tree.looks(0, 0, 0, 7, 7), 1);
        edges.due("where a QUARTER of a QUARTER is", tree.looks(0, 7, 7, 7, 7), 2);
    }

    private void refuseRectangles(PairTree tree, boolean isLooks) {
        int[][] wrong = {{3, 0, 0, 0, 0}, {-1, 0, 0, 0, 0}, {0, -1, 0, 0, 0}, {0, 0, 8, 0, 0}, {0, 8, 8, 0, 0}, {0, 0, 0, -1, 0},
            {0, 0, 0, 0, 8}, {0, 0, 0, 8, 8}, {0, 1, 0, 0, 0}, {0, 0, 0, 1, 0}, {0, 7, 6, 0, 7}, {0, 0, 7, 7, 6}, {0, -1, -1, 0, 0},
            {0, 0, 0, -1, -1}, {0, Integer.MIN_VALUE, 7, 0, 7}, {0, 0, Integer.MAX_VALUE, 0, 7}, {0, 0, 7, Integer.MIN_VALUE, 7},
            {0, 0, 7, 0, Integer.MAX_VALUE}, {Integer.MAX_VALUE, 0, 7, 0, 7}};
        for (int[] w : wrong) {
            String what = w[0] + ": " + w[1] + " .. " + w[2] + ", " + w[3] + " .. " + w[4];
            edges.due(what, isLooks ? tree.looks(w[0], w[1], w[2], w[3], w[4]) : tree.rect(w[0], w[1], w[2], w[3], w[4]), -1);
        }
    }

    private void looks() {
        PairTree tree = edges.good(TEXT, 3);
        edges.promise(22, "How many pairs lie in a rectangle (from a row to another one, from a column to another one; all count)");
        edges.due("the whole", tree.rect(0, 0, 7, 0, 7), 2);
        edges.due("of none", tree.rect(1, 0, 7, 0, 7), 0);
        edges.due("of all", tree.rect(2, 0, 7, 0, 7), 64);
        edges.due("one place", tree.rect(0, 5, 5, 6, 6), 1);
        edges.due("from, to, left and right count", tree.rect(2, 2, 4, 5, 6), 6);
        edges.due("one row ahead", tree.rect(0, 4, 4, 0, 7), 0);
        edges.due("one column behind", tree.rect(0, 0, 7, 7, 7), 0);
        edges.due("the corner", tree.rect(0, 0, 0, 0, 0), 1);
        edges.due("the last corner", tree.rect(2, 7, 7, 7, 7), 1);
        edges.promise(22, "NONE if one can't be, or the other one is less");
        refuseRectangles(tree, false);
        edges.promise(23, "How many BITS a REPORT of it LOOKS AT");
        edges.due("one place", tree.looks(0, 5, 5, 6, 6), 3);
        edges.due("the corner", tree.looks(0, 0, 0, 0, 0), 3);
        edges.due("the last corner", tree.looks(2, 7, 7, 7, 7), 3);
        edges.due("one level alone", edges.good("levels 1;rel a is all;", 1).looks(0, 1, 1, 0, 1), 2);
        edges.promise(23, "likewise");
        refuseRectangles(tree, true);
    }

    private void walked() {
        edges.terms("Two TREES are WALKED side by side: a pair of BLOCKS that lie at one place is gone through, the two wholes first;");
        PairTree tree = edges.good("levels 2;rel a has 0 0 3 3;rel b has 0 1 2 0;rel n has;rel f is all;", 4);
        edges.due("none and none", tree.walks(2, 2), 1);
        edges.terms("if none of both is EMPTY and they are of a level below levels, their four pairs of QUARTERS, too.");
        edges.due("the first one is EMPTY", tree.walks(2, 3), 1);
        edges.due("the second one is EMPTY", tree.walks(3, 2), 1);
        edges.due("one QUARTER of both", tree.walks(0, 1), 9);
        edges.due("two QUARTERS of both", tree.walks(0, 0), 13);
        edges.due("all and all", tree.walks(3, 3), 21);
        edges.due("to the last level, not below", edges.good("levels 1;rel a is all;", 1).walks(0, 0), 5);
        edges.due("four levels", edges.good("levels 4;rel a is all;", 1).walks(0, 0), 341);
    }

    private void walks() {
        PairTree tree = edges.good(TEXT, 3);
        edges.promise(24, "How many pairs of BLOCKS are gone through, if two TREES are WALKED side by side");
        edges.due("a and all", tree.walks(0, 2), 21);
        edges.due("all and a", tree.walks(2, 0), 21);
        edges.due("a and a", tree.walks(0, 0), 21);
        edges.promise(24, "NONE if one can't be");
        for (int out : new int[] {3, 5, -1, Integer.MIN_VALUE, Integer.MAX_VALUE}) {
            edges.due("one " + out, tree.walks(out, 0), -1);
            edges.due("other " + out, tree.walks(0, out), -1);
        }
    }

    private void productsTold() {
        edges.terms("PRODUCTS: the two wholes, if none is EMPTY, are one;");
        PairTree tree = edges.good("levels 2;rel a has 0 2;rel b has 2 0 3 0;rel n has;rel f is all;", 4);
        edges.due("none and none", tree.products(2, 2), 0);
        edges.due("none and all", tree.products(2, 3), 0);
        edges.due("all and none", tree.products(3, 2), 0);
        edges.due("the wholes alone", tree.products(0, 0), 1);
        edges.terms("of one of a level below levels: each QUARTER of the first one with each of the second one that has the rows which are"
            + " that one's columns, if none of both is EMPTY, is one more.");
        edges.due("1 with 2, then 0 with 0", tree.products(0, 1), 3);
        edges.due("2 with 1, then 0 and 2 with 0", tree.products(1, 0), 4);
        edges.due("all and all", tree.products(3, 3), 1 + 8 + 64);
        edges.terms("(So each thing that comes of a ( then ) of TREES.)");
        edges.due("what has a pair has a product of the last level", tree.would(3, 0, 1, 0), 1);
        edges.due("what has none", tree.would(3, 0, 0, 0), 0);
        edges.due("one level", edges.good("levels 1;rel a is all;", 1).products(0, 0), 9);
        edges.due("four levels", edges.good("levels 4;rel a is all;", 1).products(0, 0), 1 + 8 + 64 + 512 + 4096);
    }

    private void products() {
        PairTree tree = edges.good(TEXT, 3);
        edges.promise(25, "PRODUCTS; NONE if one can't be");
        edges.due("same place thrice", tree.products(0, 0), 1 + 2 + 1 + 1);
        for (int out : new int[] {3, 5, -1, Integer.MIN_VALUE, Integer.MAX_VALUE}) {
            edges.due("one " + out, tree.products(out, 0), -1);
            edges.due("other " + out, tree.products(0, out), -1);
        }
    }

    private void would() {
        PairTree tree = edges.good("levels 2;rel a has 0 1 1 2;rel b has 1 2 3 3;rel n has;", 3);
        edges.promise(26, "What would come of two (how as in become()): how many pairs (what 0), how many BITS (1)");
        int[] pairs = {3, 1, 1, 1, 4};
        int[] bits = {16, 8, 8, 8, 20};
        int[] pairsOfNone = {2, 0, 2, 0, 2};
        int[] bitsOfNone = {12, 4, 12, 4, 12};
        for (int how = 0; how < 5; how++) {
            edges.due("how " + how + " pairs", tree.would(how, 0, 1, 0), pairs[how]);
            edges.due("how " + how + " BITS", tree.would(how, 0, 1, 1), bits[how]);
            edges.due("how " + how + " with none, pairs", tree.would(how, 0, 2, 0), pairsOfNone[how]);
            edges.due("how " + how + " with none, BITS", tree.would(how, 0, 2, 1), bitsOfNone[how]);
        }
        edges.due("nothing is done: no ACT", tree.about(6), 0);
        edges.due("nothing is done: pairs", tree.about(4), 4);
        edges.promise(26, "NONE if one can't be, or for another what");
        for (int out : new int[] {5, -1, Integer.MIN_VALUE, Integer.MAX_VALUE}) {
            edges.due("how " + out, tree.would(out, 0, 1, 0), -1);
            edges.due("one " + out, tree.would(0, out, 1, 0), -1);
            edges.due("other " + out, tree.would(0, 0, out, 0), -1);
            edges.due("what " + out, tree.would(0, 0, 1, out), -1);
        }
        edges.due("one 3", tree.would(0, 3, 0, 0), -1);
        edges.due("other 3", tree.would(0, 0, 3, 0), -1);
        edges.due("what 2", tree.would(0, 0, 1, 2), -1);
    }

    private void law() {
        edges.promise(39, "How many BITS its TREE would have, were there n levels (levels .. 6; nothing in what is new)");
        for (int levels = 1; levels <= 4; levels++) {
            PairTree tree = edges.good("levels " + levels + ";rel a is all;rel n has;rel o has 0 0;", 3);
            int bits = tree.relation(0, 2);
            for (int n = levels; n <= 6; n++) {
                edges.due("of all, levels " + n, tree.law(0, n), bits + 4 * (n - levels));
                edges.due("of none, levels " + n, tree.law(1, n), 4);
                edges.due("of one pair, levels " + n, tree.law(2, n), 4 * n);
            }
            edges.due("below levels", tree.law(0, levels - 1), -1);
        }
        edges.promise(39, "NONE if one can't be");
        PairTree tree = edges.good(TEXT, 3);
        edges.due("n 7", tree.law(0, 7), -1);
        edges.due("n 2", tree.law(0, 2), -1);
        edges.due("no RELATION", tree.law(3, 4), -1);
        for (int out : FAR_OUT) {
            edges.due("n " + out, tree.law(0, out), -1);
            edges.due("rel " + out, tree.law(out, 4), -1);
        }
    }
}
