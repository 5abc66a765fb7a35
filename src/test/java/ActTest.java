/** Promises 6 to 14: a RELATION, its pairs, ACTS, UNDO and REDO. */
public final class ActTest {
    private static final Check CHECK = new Check("ActTest");

    public static void main(String[] args) {
        relation();
        has();
        putAndTake();
        become();
        derivedFollow();
        sift();
        formulaWorth();
        drift();
        undoAndRedo();
        fortyActs();
        CHECK.close();
    }

    private static void relation() {
        PairTree tree = CHECK.good("levels 2;rel a has 0 1 1 2 3 3;rel b is a less a;keep row<column;", 2);
        int[] told = {1, 3, 16, 0, 2};
        int[] derived = {0, 0, 4, 12, 0};
        for (int what = 0; what < 5; what++) {
            CHECK.due("relation(0, " + what + ")", tree.relation(0, what), told[what]);
            CHECK.due("relation(1, " + what + ")", tree.relation(1, what), derived[what]);
            CHECK.due("relation(2, " + what + ")", tree.relation(2, what), -1);
            CHECK.due("relation(-1, " + what + ")", tree.relation(-1, what), -1);
        }
        CHECK.due("relation(0, 5)", tree.relation(0, 5), -1);
        CHECK.due("relation(0, -1)", tree.relation(0, -1), -1);
        CHECK.due("nothing is done", tree.about(6), 0);
        CHECK.due("nothing is sifted", tree.relation(0, 1), 3);
    }

    private static void has() {
        PairTree tree = CHECK.good("rel a has 0 7 7 0;rel b is back a then a;", 2);
        CHECK.due("has(0, 0, 7)", tree.has(0, 0, 7), 1);
        CHECK.due("has(0, 7, 7)", tree.has(0, 7, 7), 0);
        CHECK.due("has(1, 7, 7)", tree.has(1, 7, 7), 1);
        CHECK.due("has(0, 8, 0)", tree.has(0, 8, 0), -1);
        CHECK.due("has(0, 0, 8)", tree.has(0, 0, 8), -1);
        CHECK.due("has(0, -1, 0)", tree.has(0, -1, 0), -1);
        CHECK.due("has(0, 0, -1)", tree.has(0, 0, -1), -1);
        CHECK.due("has(2, 0, 0)", tree.has(2, 0, 0), -1);
        CHECK.due("has(min, 0, 0)", tree.has(Integer.MIN_VALUE, 0, 0), -1);
    }

    private static void putAndTake() {
        PairTree tree = CHECK.good("levels 2;rel a has 0 1;rel b is a;", 2);
        CHECK.due("put", tree.put(0, 3, 2), 2);
        CHECK.due("has", tree.has(0, 3, 2), 1);
        CHECK.due("put again", tree.put(0, 3, 2), -1);
        CHECK.due("put in a DERIVED one", tree.put(1, 0, 0), -1);
        CHECK.due("put row 4", tree.put(0, 4, 0), -1);
        CHECK.due("put column 4", tree.put(0, 0, 4), -1);
        CHECK.due("put row -1", tree.put(0, -1, 0), -1);
        CHECK.due("put rel 2", tree.put(2, 0, 0), -1);
        CHECK.due("acts", tree.about(6), 1);
        CHECK.due("take", tree.take(0, 0, 1), 1);
        CHECK.due("has not", tree.has(0, 0, 1), 0);
        CHECK.due("take again", tree.take(0, 0, 1), -1);
        CHECK.due("take from a DERIVED one", tree.take(1, 3, 2), -1);
        CHECK.due("take column 4", tree.take(0, 0, 4), -1);
        CHECK.due("take rel -1", tree.take(-1, 0, 0), -1);
        CHECK.due("acts", tree.about(6), 2);
        CHECK.due("the DERIVED one follows", tree.has(1, 3, 2), 1);
        CHECK.due("the DERIVED one follows", tree.relation(1, 1), 1);
    }

    private static void become() {
        String text = "levels 2;rel a has 0 1 1 2;rel b has 1 2 2 3;rel c has 3 3;rel d is a or b;";
        int[] pairs = {3, 1, 1, 2, 4};
        for (int how = 0; how <= 4; how++) {
            PairTree tree = CHECK.good(text, 4);
            CHECK.due("become(2, " + how + ", 0, 1)", tree.become(2, how, 0, 1), pairs[how]);
            CHECK.due("relation(2, 1)", tree.relation(2, 1), pairs[how]);
            CHECK.due("acts", tree.about(6), 1);
        }
        PairTree tree = CHECK.good(text, 4);
        CHECK.due("then", tree.become(2, 3, 0, 1), 2);
        CHECK.due("then 0 2", tree.has(2, 0, 2), 1);
        CHECK.due("then 1 3", tree.has(2, 1, 3), 1);
        CHECK.due("or back", tree.become(2, 4, 0, 1), 4);
        CHECK.due("or back 2 1", tree.has(2, 2, 1), 1);
        CHECK.due("or back 3 2", tree.has(2, 3, 2), 1);
        CHECK.due("itself", tree.become(0, 3, 0, 0), 1);
        CHECK.due("itself 0 2", tree.has(0, 0, 2), 1);
        CHECK.due("itself back", tree.become(0, 4, 0, 0), 2);
        CHECK.due("of a DERIVED one", tree.become(0, 2, 3, 1), 2);
        CHECK.due("acts", tree.about(6), 5);
        CHECK.due("DERIVED", tree.become(3, 0, 0, 0), -1);
        CHECK.due("how 5", tree.become(0, 5, 0, 0), -1);
        CHECK.due("how -1", tree.become(0, -1, 0, 0), -1);
        CHECK.due("one 4", tree.become(0, 0, 4, 0), -1);
        CHECK.due("other -1", tree.become(0, 0, 0, -1), -1);
        CHECK.due("rel 4", tree.become(4, 0, 0, 0), -1);
        CHECK.due("acts", tree.about(6), 5);
    }

    private static void derivedFollow() {
        PairTree tree = CHECK.good("levels 2;rel a has 0 1;rel b is a or same less back a;rel c is b and b then a;"
            + "rel d is all less (b or c);", 4);
        CHECK.due("b", tree.relation(1, 1), 5);
        CHECK.due("c is (b and b) then a", tree.relation(2, 1), 1);
        CHECK.due("d", tree.relation(3, 1), 11);
        PairTree turned = CHECK.good("levels 2;rel a has 0 1 3 2;rel b is back a;rel c is back back a;", 3);
        CHECK.due("back 1 0", turned.has(1, 1, 0), 1);
        CHECK.due("back 2 3", turned.has(1, 2, 3), 1);
        CHECK.due("back 0 1", turned.has(1, 0, 1), 0);
        CHECK.due("back back", turned.unlike(0, 2), 0);
        tree.put(0, 1, 1);
        CHECK.due("b: (a or same) less back a", tree.has(1, 1, 1), 0);
        CHECK.due("b", tree.relation(1, 1), 4);
        CHECK.due("c", tree.has(2, 0, 1), 1);
        CHECK.due("d", tree.relation(3, 1), 12);
        tree.undo();
        CHECK.due("b", tree.relation(1, 1), 5);
        tree.redo();
        CHECK.due("b", tree.relation(1, 1), 4);
    }

    private static void sift() {
        PairTree tree = CHECK.good("levels 2;rel a has 0 1 1 2 2 3 3 3;rel b is a;keep row<column and many=4;", 2);
        CHECK.due("would stay", tree.relation(0, 4), 3);
        CHECK.due("sift", tree.sift(0), 1);
        CHECK.due("left", tree.relation(0, 1), 3);
        CHECK.due("gone", tree.has(0, 3, 3), 0);
        CHECK.due("many is 3 now: none would stay", tree.relation(0, 4), 0);
        CHECK.due("DERIVED", tree.sift(1), -1);
        CHECK.due("DERIVED would", tree.relation(1, 4), 0);
        CHECK.due("none such", tree.sift(2), -1);
        CHECK.due("none such", tree.sift(-1), -1);
        CHECK.due("acts", tree.about(6), 1);
        CHECK.due("undo", tree.undo(), true);
        CHECK.due("back again", tree.has(0, 3, 3), 1);
        tree = CHECK.good("rel a has 0 0 0 7 7 0 7 7;keep 0;", 1);
        CHECK.due("all are gone", tree.sift(0), 4);
        CHECK.due("none is left", tree.relation(0, 1), 0);
        tree = CHECK.good("rel a has 0 0 1 1;", 1);
        CHECK.due("without keep", tree.sift(0), 0);
        CHECK.due("an ACT all the same", tree.about(6), 1);
    }

    /** Of the one pair 2 3 in a square of 8: 1 if it stays. */
    private static void formulaWorth() {
        String[] kept = {"1", "row", "2=row", "3=column", "many=1", "row<column", "not row>column", "not 0", "1 or 0",
            "0 or row", "2 and 3", "row*column=6", "7/2=3", "7%4=3", "1/0=0", "1%0=0", "(0-7)/2=0-3", "(0-7)%2=0-1",
            "2+3*4=14", "(2+3)*4=20", "9-3-2=4", "24/4/2=3", "8/4*2=4", "1 or 0 and 0", "not 0 and 1", "not(1 and 0)",
            "not 5=0", "(not 5)=0", "9999*9999*9999<0", "8%5%2", "(1<2)+(3>2)=2", "not not 7=7", "(not not 7)=1",
            "(7 and 9)=1", "(3=3)=1", "(3>2)=1", "(2<3)=1", "(7 or 0)=1", "0-1", "(0-9999)*9999*9999*9999/(0-1)=9999*9999*9999*9999"};
        String[] taken = {"0", "row-2", "row=column", "many>1", "not 1", "not row", "1 and 0", "0 or 0", "2*0", "7/8",
            "0/0", "1%0", "1=2", "(1<2)-1", "not 0 and 0", "1<0+0", "0 and 1 or 0"};
        for (String formula : kept) {
            PairTree tree = CHECK.good("rel a has 2 3;keep " + formula + ";", 1);
            CHECK.due(formula, tree.relation(0, 4), 1);
            CHECK.due(formula, tree.sift(0), 0);
        }
        for (String formula : taken) {
            PairTree tree = CHECK.good("rel a has 2 3;keep " + formula + ";", 1);
            CHECK.due(formula, tree.relation(0, 4), 0);
            CHECK.due(formula, tree.sift(0), 1);
        }
    }

    private static void drift() {
        PairTree tree = CHECK.good("levels 2;rel a has 0 1;rel b is a;rel c has;drift 100;draw 0;", 3);
        // 71: 71 % 3 = 2; row 71 / 16 = 4, 0; column 71 % 4 = 3
        CHECK.due("drift to 71", tree.drift(), 2);
        CHECK.due("seed", tree.about(5), 71);
        CHECK.due("put in", tree.has(2, 0, 3), 1);
        // 71 * 137 + 71 = 9798: 798 % 3 = 0; row 49 % 4 = 1; column 2
        CHECK.due("drift to 798", tree.drift(), 0);
        CHECK.due("seed", tree.about(5), 798);
        CHECK.due("put in", tree.has(0, 1, 2), 1);
        // 798 * 137 + 71 = 109397: 397 % 3 = 1, which is DERIVED
        CHECK.due("drift to 397", tree.drift(), -1);
        CHECK.due("seed", tree.about(5), 397);
        CHECK.due("pairs", tree.about(4), 3);
        CHECK.due("acts", tree.about(6), 3);
        tree.undo();
        tree.undo();
        CHECK.due("seed behind undo", tree.about(5), 71);
        CHECK.due("taken out again", tree.has(0, 1, 2), 0);
        tree.redo();
        CHECK.due("seed behind redo", tree.about(5), 798);
        CHECK.due("put in again", tree.has(0, 1, 2), 1);
        tree = CHECK.good("levels 2;rel a has 0 3;drift 72;", 1);
        CHECK.due("71 is less than 72", tree.drift(), 0);
        CHECK.due("taken out", tree.has(0, 0, 3), 0);
        tree = CHECK.good("levels 2;rel a has 0 3;drift 71;", 1);
        CHECK.due("71 is not less than 71", tree.drift(), -1);
        CHECK.due("the SEED goes on", tree.about(5), 71);
        tree = CHECK.good("rel a has;drift 95;draw 71;", 1);
        CHECK.due("798: 98 is not less than 95", tree.drift(), -1);
        CHECK.due("the SEED goes on", tree.about(5), 798);
        tree = CHECK.good("drift 100;", 0);
        CHECK.due("without RELATIONS", tree.drift(), -1);
        CHECK.due("the SEED goes on", tree.about(5), 71);
    }

    private static void undoAndRedo() {
        PairTree tree = CHECK.good("levels 2;rel a has 0 1;rel b has 2 2;", 2);
        CHECK.due("none", tree.undo(), false);
        tree.put(0, 1, 1);
        tree.take(1, 2, 2);
        tree.become(0, 0, 0, 1);
        CHECK.due("can be undone", tree.about(6), 3);
        CHECK.due("undo", tree.undo(), true);
        CHECK.due("undo", tree.undo(), true);
        CHECK.due("taken back", tree.has(1, 2, 2), 1);
        CHECK.due("can be undone", tree.about(6), 1);
        CHECK.due("can be redone", tree.about(7), 2);
        CHECK.due("redo", tree.redo(), true);
        CHECK.due("done again", tree.has(1, 2, 2), 0);
        CHECK.due("a call that does nothing", tree.put(0, 0, 1), -1);
        CHECK.due("can be redone still", tree.about(7), 1);
        CHECK.due("another ACT", tree.put(1, 0, 0), 1);
        CHECK.due("none can be redone", tree.about(7), 0);
        CHECK.due("redo", tree.redo(), false);
        CHECK.due("can be undone", tree.about(6), 3);
        CHECK.due("undo", tree.undo() && tree.undo() && tree.undo(), true);
        CHECK.due("undo", tree.undo(), false);
        CHECK.due("as told", tree.about(4), 2);
        CHECK.due("as told", tree.has(0, 1, 1), 0);
    }

    private static void fortyActs() {
        PairTree tree = CHECK.good("levels 4;rel a has;", 1);
        for (int at = 0; at < 45; at++) {
            CHECK.due("put " + at, tree.put(0, at / 16, at % 16), at + 1);
        }
        CHECK.due("40 are kept", tree.about(6), 40);
        for (int at = 44; at >= 5; at--) {
            CHECK.due("undo " + at, tree.undo(), true);
            CHECK.due("it is gone " + at, tree.has(0, at / 16, at % 16), 0);
        }
        CHECK.due("the oldest are gone", tree.undo(), false);
        CHECK.due("their pairs stay", tree.relation(0, 1), 5);
        CHECK.due("can be redone", tree.about(7), 40);
        for (int at = 5; at < 45; at++) {
            CHECK.due("redo " + at, tree.redo(), true);
            CHECK.due("it is there " + at, tree.has(0, at / 16, at % 16), 1);
        }
        CHECK.due("no more", tree.redo(), false);
        tree.undo();
        tree.undo();
        CHECK.due("another ACT", tree.drift(), -1);
        CHECK.due("can be undone", tree.about(6), 39);
        CHECK.due("none to redo", tree.about(7), 0);
    }
}
