/** Promises 42 to 50: what is SEEN, the TIME, FITS, ASK, BOXES, and about. */
public final class SeenTest {
    private static final Check CHECK = new Check("SeenTest");

    public static void main(String[] args) {
        seen();
        later();
        fits();
        asTold();
        twoTimes();
        ask();
        boxes();
        about();
        CHECK.close();
    }

    private static void seen() {
        PairTree tree = CHECK.good("levels 2;rel a has 0 1;", 1);
        CHECK.due("level -1", tree.seen(-1, 0, 0, true), -1);
        CHECK.due("level 3", tree.seen(3, 0, 0, true), -1);
        CHECK.due("block -1", tree.seen(1, -1, 0, true), -1);
        CHECK.due("block 1 of level 0", tree.seen(0, 1, 0, true), -1);
        CHECK.due("block 4 of level 1", tree.seen(1, 4, 0, true), -1);
        CHECK.due("block 16 of level 2", tree.seen(2, 16, 0, true), -1);
        CHECK.due("many -1", tree.seen(0, 0, -1, true), -1);
        CHECK.due("many 257", tree.seen(0, 0, 257, true), -1);
        CHECK.due("nothing is SEEN", tree.about(8), 0);
        CHECK.due("many 256", tree.seen(0, 0, 256, false), 0);
        CHECK.due("block 15", tree.seen(2, 15, 0, true), 1);
        CHECK.due("untell", tree.untell(0), true);
        CHECK.due("untell again", tree.untell(0), false);
        CHECK.due("untell 2", tree.untell(2), false);
        CHECK.due("untell -1", tree.untell(-1), false);
        for (int number = 2; number < 30; number++) {
            CHECK.due("seen " + number, tree.seen(1, 3, 0, true), number);
        }
        CHECK.due("there are 30", tree.seen(1, 3, 0, true), -1);
        CHECK.due("about", tree.about(8), 30);
        CHECK.due("untell 29", tree.untell(29), true);
        CHECK.due("there are 30 still", tree.seen(1, 3, 0, true), -1);
        CHECK.due("no RELATIONS", CHECK.good("", 0).seen(0, 0, 0, true), -1);
    }

    private static void later() {
        PairTree tree = new PairTree();
        CHECK.due("0", tree.later(0), 0);
        CHECK.due("-1", tree.later(-1), -1);
        CHECK.due("1001", tree.later(1001), -1);
        for (int times = 1; times <= 99; times++) {
            CHECK.due("1000", tree.later(1000), 1000 * times);
        }
        CHECK.due("999", tree.later(999), 99999);
        CHECK.due("above", tree.later(2), -1);
        CHECK.due("just", tree.later(1), 100000);
        CHECK.due("above", tree.later(1), -1);
        CHECK.due("0", tree.later(0), 100000);
        CHECK.due("about", tree.about(9), 100000);
        CHECK.due("the TIME stays", tree.store() + tree.about(9), 100000);
    }

    private static void fits() {
        PairTree tree = CHECK.good("levels 1;rel a has 0 1;", 1);
        CHECK.due("all", tree.fits(0), 5);
        for (int i = 0; i < 5; i++) {
            CHECK.due("fit " + i, tree.fit(i, 0), i - 1);
        }
        CHECK.due("fit 5", tree.fit(5, 0), -2);
        CHECK.due("fit -1", tree.fit(-1, 0), -2);
        tree.seen(0, 0, 2, true);
        CHECK.due("one more", tree.fits(0), 3);
        CHECK.due("0 0", tree.fit(0, 0), 0);
        CHECK.due("1 0", tree.fit(1, 0), 2);
        CHECK.due("1 1", tree.fit(2, 0), 3);
        CHECK.due("no more", tree.fit(3, 0), -2);
        tree.seen(1, 2, 1, false);
        CHECK.due("not 1 0", tree.fits(0), 2);
        tree.seen(1, 1, 0, true);
        CHECK.due("none", tree.fits(0), 0);
        CHECK.due("none", tree.fit(0, 0), -2);
        CHECK.due("none", tree.ask(0, 0, 0), -1);
        PairTree none = CHECK.good("levels 2;", 0);
        CHECK.due("without RELATIONS", none.fits(0), 0);
        CHECK.due("without RELATIONS", none.fit(0, 0), -2);
        CHECK.due("without RELATIONS", none.ask(0, 0, 0), -1);
    }

    private static void asTold() {
        PairTree tree = CHECK.good("levels 1;rel a has 0 1;", 1);
        tree.take(0, 0, 1);
        tree.put(0, 1, 1);
        tree.put(0, 1, 0);
        tree.seen(0, 0, 0, true);
        CHECK.due("the pair told was taken out", tree.fits(0), 1);
        CHECK.due("0 1", tree.fit(0, 0), 1);
        PairTree derived = CHECK.good("levels 1;rel a is same;", 1);
        derived.seen(1, 3, 0, true);
        CHECK.due("a DERIVED one", derived.fits(0), 1);
        CHECK.due("1 1", derived.fit(0, 0), 3);
    }

    private static void twoTimes() {
        PairTree tree = CHECK.good("levels 1;rel a has;", 1);
        tree.later(10);
        tree.seen(0, 0, 1, true);
        tree.later(10);
        tree.seen(1, 0, 0, true);
        tree.later(10);
        tree.untell(0);
        int[][] due = {{-5, 5}, {0, 5}, {9, 5}, {10, 4}, {19, 4}, {20, 3}, {29, 3}, {30, 4}, {999999, 4}};
        for (int[] d : due) {
            CHECK.due("fits as known at " + d[0], tree.fits(d[0]), d[1]);
        }
        CHECK.due("fit at 19", tree.fit(0, 19), 0);
        CHECK.due("fit at 20", tree.fit(0, 20), 1);
        CHECK.due("fit at 30", tree.fit(0, 30), -1);
        tree.seen(0, 0, 0, false);
        CHECK.due("untold at the same TIME", tree.untell(2), true);
        CHECK.due("never counts", tree.fits(30), 4);
        CHECK.due("never counts", tree.fits(31), 4);
    }

    private static void ask() {
        PairTree tree = CHECK.good("levels 1;rel a has 0 1;", 1);
        // the whole: 1 as told (none), 2 with one more (three of them), 0 with one less
        CHECK.due("whole", tree.ask(0, 0, 0), 0);
        CHECK.due("whole leaves", tree.ask(0, 1, 0), 3);
        CHECK.due("of like ones the first", tree.ask(1, 0, 0), 0);
        CHECK.due("a place leaves", tree.ask(1, 1, 0), 4);
        tree.seen(1, 0, 1, false);
        tree.seen(1, 1, 1, true);
        tree.seen(0, 0, 1, false);
        CHECK.due("1 0 and 1 1 fit", tree.fits(0), 2);
        CHECK.due("the first that parts them", tree.ask(1, 0, 0), 2);
        CHECK.due("one is left", tree.ask(1, 1, 0), 1);
        PairTree even = CHECK.good("levels 2;rel a has 0 0 0 1 1 0 0 2 0 3;", 1);
        // quarter 0: three with one less, one with one more, 13 as told; quarter 1: two, two, 13; the whole: 5, 11, 1
        CHECK.due("the first of like quarters", even.ask(1, 0, 0), 0);
        CHECK.due("a quarter leaves", even.ask(1, 1, 0), 13);
        CHECK.due("the whole leaves", even.ask(0, 1, 0), 11);
        even.seen(0, 0, 4, true);
        CHECK.due("one of those told was taken out", even.fits(0), 5);
        CHECK.due("three and two", even.ask(1, 1, 0), 3);
        even.seen(2, 1, 1, true);
        CHECK.due("one of the other four", even.fits(0), 4);
        CHECK.due("two and two", even.ask(1, 1, 0), 2);
        CHECK.due("the first", even.ask(2, 0, 0), 0);
        CHECK.due("three are left", even.ask(2, 1, 0), 3);
        CHECK.due("level 2", tree.ask(2, 0, 0), -1);
        CHECK.due("level -1", tree.ask(-1, 0, 0), -1);
        CHECK.due("what 2", tree.ask(0, 2, 0), -1);
        CHECK.due("what -1", tree.ask(0, -1, 0), -1);
        CHECK.due("at another time", tree.ask(1, 1, -1), 4);
    }

    private static void boxes() {
        PairTree tree = CHECK.good("levels 2;rel a has 0 1 1 2;rel b is back a;rel c has 3 3;drift 100;", 3);
        CHECK.due("box 3", tree.image(3), -1);
        CHECK.due("box -1", tree.image(-1), -1);
        CHECK.due("nothing kept", tree.back(0), -1);
        CHECK.due("box 3", tree.back(3), -1);
        CHECK.due("box -1", tree.back(-1), -1);
        CHECK.due("image", tree.image(0), 3);
        tree.put(0, 0, 0);
        tree.drift();
        tree.take(2, 3, 3);
        CHECK.due("pairs", tree.about(4), 4);
        CHECK.due("image 2", tree.image(2), 4);
        tree.undo();
        CHECK.due("acts", tree.about(6), 2);
        CHECK.due("back 1", tree.back(1), -1);
        CHECK.due("nothing done", tree.about(6), 2);
        CHECK.due("back 0", tree.back(0), 3);
        CHECK.due("seed", tree.about(5), 0);
        CHECK.due("acts", tree.about(6), 0);
        CHECK.due("redo", tree.about(7), 0);
        CHECK.due("3 3", tree.has(2, 3, 3), 1);
        CHECK.due("0 0", tree.has(0, 0, 0), 0);
        CHECK.due("the DERIVED one", tree.has(1, 0, 0), 0);
        CHECK.due("back 2", tree.back(2), 4);
        CHECK.due("seed", tree.about(5), 71);
        CHECK.due("the DERIVED one", tree.has(1, 0, 0), 1);
        tree.put(0, 3, 0);
        CHECK.due("back 2 again", tree.back(2), 4);
        CHECK.due("gone on from", tree.put(0, 3, 0), 4);
        CHECK.due("image over", tree.image(2), 5);
        tree.take(0, 3, 0);
        CHECK.due("back 2", tree.back(2), 5);
    }

    private static void about() {
        PairTree tree = CHECK.good("levels 4;rel a is same;rel b has 1 1 2 2;rel c has 0 0;keep (row)=1;drift 7;draw 3;", 3);
        tree.put(1, 0, 0);
        tree.put(1, 0, 1);
        tree.put(1, 0, 2);
        tree.undo();
        tree.seen(0, 0, 0, true);
        tree.later(12);
        tree.feed(0, 0, 0, 0, 0);
        tree.row(1, 0);
        int[] due = {3, 4, 16, 6, 5, 3, 2, 1, 1, 12, 20, 3, 2, 7};
        for (int what = 0; what < due.length; what++) {
            CHECK.due("about(" + what + ")", tree.about(what), due[what]);
        }
        CHECK.due("about(14)", tree.about(14), -1);
        CHECK.due("about(-1)", tree.about(-1), -1);
        CHECK.due("NONE", PairTree.NONE, -1);
    }
}
