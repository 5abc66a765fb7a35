/** Promises 15 to 19, 23 to 26, 39: the BITS of a TREE, and what is gone through on TREES. */
public final class TreeTest {
    private static final Check CHECK = new Check("TreeTest");

    public static void main(String[] args) {
        bits();
        emptyTree();
        lastLevel();
        blocks();
        looks();
        walks();
        products();
        would();
        law();
        CHECK.close();
    }

    /** 0 0 and 5 6 in a square of 8: 1001, then 1000 0001 (rows 0, 1; 4 .. 7), then 1000, of row 4, column 6: 0010. */
    private static void bits() {
        PairTree tree = CHECK.good("rel a has 0 0 5 6;", 1);
        String bits = "1001" + "1000" + "0100" + "1000" + "0010";
        CHECK.due("how many", tree.relation(0, 2), bits.length());
        int rank = 0;
        for (int bit = 0; bit < bits.length(); bit++) {
            int one = bits.charAt(bit) - '0';
            rank += one;
            CHECK.due("bit " + bit, tree.bit(0, bit), one);
            CHECK.due("rank " + bit, tree.rank(0, bit), rank);
            for (int q = 0; q < 4; q++) {
                CHECK.due("child " + bit + " " + q, tree.child(0, bit, q), one == 1 && bit < 12 ? 4 * rank + q : -1);
            }
        }
        int[][] places = {{0, 1, 0, 0}, {1, 1, 0, 4}, {2, 1, 4, 0}, {3, 1, 4, 4}, {4, 2, 0, 0}, {7, 2, 2, 2}, {8, 2, 4, 4},
            {9, 2, 4, 6}, {10, 2, 6, 4}, {12, 3, 0, 0}, {16, 3, 4, 6}, {17, 3, 4, 7}, {18, 3, 5, 6}, {19, 3, 5, 7}};
        for (int[] due : places) {
            for (int what = 0; what < 3; what++) {
                CHECK.due("place " + due[0] + " " + what, tree.place(0, due[0], what), due[1 + what]);
            }
        }
        for (int bit : new int[] {-1, 20, Integer.MAX_VALUE, Integer.MIN_VALUE}) {
            CHECK.due("bit " + bit, tree.bit(0, bit), -1);
            CHECK.due("rank " + bit, tree.rank(0, bit), -1);
            CHECK.due("child " + bit, tree.child(0, bit, 0), -1);
            CHECK.due("place " + bit, tree.place(0, bit, 0), -1);
        }
        for (int rel : new int[] {-1, 1}) {
            CHECK.due("bit of " + rel, tree.bit(rel, 0), -1);
            CHECK.due("rank of " + rel, tree.rank(rel, 0), -1);
            CHECK.due("child of " + rel, tree.child(rel, 0, 0), -1);
            CHECK.due("place of " + rel, tree.place(rel, 0, 0), -1);
        }
        CHECK.due("child q -1", tree.child(0, 0, -1), -1);
        CHECK.due("child q 4", tree.child(0, 0, 4), -1);
        CHECK.due("place what -1", tree.place(0, 0, -1), -1);
        CHECK.due("place what 3", tree.place(0, 0, 3), -1);
    }

    private static void emptyTree() {
        PairTree tree = CHECK.good("levels 4;rel a has;", 1);
        CHECK.due("four BITS", tree.relation(0, 2), 4);
        for (int bit = 0; bit < 4; bit++) {
            CHECK.due("bit " + bit, tree.bit(0, bit), 0);
            CHECK.due("rank " + bit, tree.rank(0, bit), 0);
            CHECK.due("child " + bit, tree.child(0, bit, 0), -1);
        }
        CHECK.due("bit 4", tree.bit(0, 4), -1);
    }

    private static void lastLevel() {
        PairTree tree = CHECK.good("levels 4;rel a is all;", 1);
        CHECK.due("how many", tree.relation(0, 2), 340);
        CHECK.due("rank 339", tree.rank(0, 339), 340);
        CHECK.due("child 83", tree.child(0, 83, 3), 339);
        CHECK.due("child 84", tree.child(0, 84, 0), -1);
        CHECK.due("place 339", tree.place(0, 339, 2), 15);
        CHECK.due("bit 340", tree.bit(0, 340), -1);
    }

    private static void blocks() {
        PairTree tree = CHECK.good("rel a has 0 0 5 6 0 1;rel b is a less a;", 2);
        int[] due = {1, 2, 2, 3};
        for (int level = 0; level < 4; level++) {
            CHECK.due("blocks " + level, tree.blocks(0, level), due[level]);
            CHECK.due("EMPTY blocks " + level, tree.blocks(1, level), 0);
        }
        CHECK.due("blocks -1", tree.blocks(0, -1), -1);
        CHECK.due("blocks 4", tree.blocks(0, 4), -1);
        CHECK.due("blocks of 2", tree.blocks(2, 0), -1);
    }

    private static void looks() {
        PairTree tree = CHECK.good("rel a has 0 0 5 6;rel b has;", 2);
        CHECK.due("all", tree.looks(0, 0, 7, 0, 7), 20);
        CHECK.due("one place", tree.looks(0, 5, 5, 6, 6), 3);
        CHECK.due("a row", tree.looks(0, 5, 5, 0, 7), 6);
        CHECK.due("EMPTY", tree.looks(1, 0, 7, 0, 7), 4);
        CHECK.due("EMPTY, one place", tree.looks(1, 7, 7, 0, 0), 1);
        int[][] wrong = {{2, 0, 0, 0, 0}, {-1, 0, 0, 0, 0}, {0, -1, 0, 0, 0}, {0, 0, 8, 0, 0}, {0, 0, 0, -1, 0},
            {0, 0, 0, 0, 8}, {0, 3, 2, 0, 0}, {0, 0, 0, 3, 2}};
        for (int[] w : wrong) {
            CHECK.due("looks that can't be", tree.looks(w[0], w[1], w[2], w[3], w[4]), -1);
            CHECK.due("rect that can't be", tree.rect(w[0], w[1], w[2], w[3], w[4]), -1);
        }
    }

    private static void walks() {
        PairTree tree = CHECK.good("levels 2;rel a has 0 0 3 3;rel b has 0 1 2 0;rel c has;", 3);
        CHECK.due("a, b", tree.walks(0, 1), 1 + 4 + 4);
        CHECK.due("a, a", tree.walks(0, 0), 1 + 4 + 4 + 4);
        CHECK.due("a, c", tree.walks(0, 2), 1);
        CHECK.due("c, c", tree.walks(2, 2), 1);
        CHECK.due("a, 3", tree.walks(0, 3), -1);
        CHECK.due("-1, a", tree.walks(-1, 0), -1);
    }

    private static void products() {
        PairTree tree = CHECK.good("levels 2;rel a has 0 2;rel b has 2 0 3 0;rel c has;", 3);
        CHECK.due("a, b", tree.products(0, 1), 1 + 1 + 1);
        CHECK.due("b, a", tree.products(1, 0), 1 + 1 + 2);
        CHECK.due("a, a", tree.products(0, 0), 1);
        CHECK.due("a, c", tree.products(0, 2), 0);
        CHECK.due("c, a", tree.products(2, 0), 0);
        CHECK.due("a, 3", tree.products(0, 3), -1);
        CHECK.due("-1, a", tree.products(-1, 0), -1);
    }

    private static void would() {
        PairTree tree = CHECK.good("levels 2;rel a has 0 1 1 2;rel b has 1 2 2 3;", 2);
        int[] pairs = {3, 1, 1, 2, 4};
        int[] bits = {16, 8, 8, 8, 20};
        for (int how = 0; how < 5; how++) {
            CHECK.due("would " + how + " pairs", tree.would(how, 0, 1, 0), pairs[how]);
            CHECK.due("would " + how + " bits", tree.would(how, 0, 1, 1), bits[how]);
            CHECK.due("would what 2", tree.would(how, 0, 1, 2), -1);
            CHECK.due("would what -1", tree.would(how, 0, 1, -1), -1);
        }
        CHECK.due("would how -1", tree.would(-1, 0, 1, 0), -1);
        CHECK.due("would how 5", tree.would(5, 0, 1, 0), -1);
        CHECK.due("would one 2", tree.would(0, 2, 1, 0), -1);
        CHECK.due("would other -1", tree.would(0, 0, -1, 0), -1);
        CHECK.due("nothing is done", tree.about(6), 0);
    }

    private static void law() {
        PairTree tree = CHECK.good("levels 2;rel a has 0 1 1 2;rel b has;", 2);
        for (int n = 2; n <= 6; n++) {
            CHECK.due("law " + n, tree.law(0, n), 12 + 4 * (n - 2));
            CHECK.due("law of an EMPTY one " + n, tree.law(1, n), 4);
        }
        CHECK.due("law 1", tree.law(0, 1), -1);
        CHECK.due("law 7", tree.law(0, 7), -1);
        CHECK.due("law of 2", tree.law(2, 3), -1);
    }
}
