/** Promises 1 to 5: a new object, the TAPE, the text of a STORE and its FAULTS. */
public final class StoreTest {
    private static final Check CHECK = new Check("StoreTest");

    public static void main(String[] args) {
        newObject();
        tape();
        storing();
        wordsAndNumbers();
        linesOnceAndInOrder();
        namesAndPairs();
        derivedTexts();
        formulas();
        fullest();
        firstFault();
        CHECK.close();
    }

    private static void newObject() {
        PairTree tree = new PairTree();
        int[] due = {0, 3, 8, 0, 0, 0, 0, 0, 0, 0, 0, 0, 0, 0};
        for (int what = 0; what < due.length; what++) {
            CHECK.due("new about(" + what + ")", tree.about(what), due[what]);
        }
        CHECK.due("new about(14)", tree.about(14), -1);
        CHECK.due("new about(-1)", tree.about(-1), -1);
        CHECK.due("new fault(0)", tree.fault(0), 0);
        CHECK.due("new fault(1)", tree.fault(1), -1);
        CHECK.due("new fault(2)", tree.fault(2), -1);
        CHECK.due("new fault(-1)", tree.fault(-1), -1);
        CHECK.due("new undo", tree.undo(), false);
        CHECK.due("new redo", tree.redo(), false);
        CHECK.due("new back(0)", tree.back(0), -1);
        CHECK.due("new store", tree.store(), 0);
    }

    private static void tape() {
        PairTree tree = new PairTree();
        for (int times = 1; times <= 80; times++) {
            CHECK.due("feed " + times, tree.feed(times, -times, 0, 7, 1), 20 * times);
        }
        CHECK.due("feed above 1600", tree.feed(1, 2, 3, 4, 5), -1);
        CHECK.due("about(10)", tree.about(10), 1600);
        CHECK.due("end(1601)", tree.end(1601), -1);
        CHECK.due("end(-1)", tree.end(-1), -1);
        CHECK.due("about(10)", tree.about(10), 1600);
        CHECK.due("end(1600)", tree.end(1600), 1600);
        CHECK.due("end(1581)", tree.end(1581), 1581);
        CHECK.due("feed with 1581", tree.feed(1, 2, 3, 4, 5), -1);
        CHECK.due("about(10)", tree.about(10), 1581);
        CHECK.due("end(1580)", tree.end(1580), 1580);
        CHECK.due("feed with 1580", tree.feed(1, 2, 3, 4, 5), 1600);
        CHECK.due("end(0)", tree.end(0), 0);
        CHECK.due("end(1)", tree.end(1), -1);
        // what stood behind the cut must not come back
        Check.feedText(tree, "draw 7;");
        CHECK.due("store", tree.store(), 0);
        CHECK.due("seed", tree.about(5), 7);
        CHECK.due("tape behind store", tree.about(10), 0);
        String longest = "draw 12;" + Check.many(" ", 1591) + "x";
        CHECK.due("1600 bytes", Check.storeText(tree, longest), -1);
        CHECK.due("fault", tree.fault(0), 2);
        CHECK.due("place", tree.fault(1), 1599);
        CHECK.due("tape behind a FAULT", tree.about(10), 0);
        CHECK.due("seed stays", tree.about(5), 7);
    }

    private static void storing() {
        PairTree tree = CHECK.good("levels 2;rel a has 0 1 1 2;rel b is a then a;keep row<1;drift 40;draw 5;", 2);
        tree.put(0, 3, 3);
        tree.drift();
        tree.undo();
        tree.image(0);
        tree.row(0, 0);
        tree.seen(0, 0, 2, true);
        CHECK.due("later", tree.later(9), 9);
        Check.feedText(tree, "rel");
        CHECK.due("a FAULT", tree.store(), -1);
        CHECK.due("relations stay", tree.about(0), 2);
        CHECK.due("ACTS stay", tree.about(6), 1);
        CHECK.due("ACTS stay to be redone", tree.about(7), 1);
        CHECK.due("SEEN stays", tree.about(8), 1);
        CHECK.due("units stay", tree.about(11), 2);
        CHECK.due("lies stays", tree.about(12), 1);
        CHECK.due("drift stays", tree.about(13), 40);
        CHECK.due("pairs stay", tree.about(4), 3);
        CHECK.due("the BOX stays", tree.back(0), 3);
        CHECK.due("fault", tree.fault(0), 2);
        CHECK.due("place", tree.fault(1), 3);
        tree.put(0, 2, 2);
        tree.image(1);
        CHECK.due("store again", Check.storeText(tree, "levels 2;rel a has 0 1;draw 9;"), 1);
        CHECK.due("fault is gone", tree.fault(0), 0);
        CHECK.due("place is gone", tree.fault(1), -1);
        int[] due = {1, 2, 4, 1, 1, 9, 0, 0, 0, 9, 0, 0, 0, 0};
        for (int what = 0; what < due.length; what++) {
            CHECK.due("stored about(" + what + ")", tree.about(what), due[what]);
        }
        CHECK.due("BOX 0 is empty", tree.back(0), -1);
        CHECK.due("BOX 1 is empty", tree.back(1), -1);
        CHECK.due("lies", tree.lies(0), -2);
        CHECK.due("no undo", tree.undo(), false);
        CHECK.due("nothing is SEEN", tree.fits(9), 17);
        CHECK.due("an empty text", tree.store(), 0);
        CHECK.due("levels", tree.about(1), 3);
        CHECK.due("relations", tree.about(0), 0);
        CHECK.due("seed", tree.about(5), 0);
    }

    private static void wordsAndNumbers() {
        CHECK.good("rel\na\n\nhas 0 0;rel b is(a)or(a);", 2);
        CHECK.good("levels3;draw0007;drift0;rel abcdefgh has1 2;", 1);
        CHECK.faultDue("\trel a has;", 1, 0);
        CHECK.faultDue("rel a has\r;", 1, 9);
        CHECK.faultDue("rel A has;", 1, 4);
        CHECK.faultDue("rel a has;\0", 1, 10);
        CHECK.faultDue("rel a has \u00e4;", 1, 10);
        CHECK.faultDue("rel abcdefghi has;", 1, 4);
        CHECK.faultDue("draw 00001;", 1, 5);
        CHECK.faultDue("draw 1x;", 1, 5);
        CHECK.faultDue("rel a has 0 1or;", 1, 12);
        CHECK.faultDue("draw 1 x;", 2, 7);
        CHECK.faultDue("draw 1000;", 4, 5);
        CHECK.faultDue("keep 1,2;", 1, 6);
        CHECK.faultDue("keep 1&2;", 1, 6);
        CHECK.good("keep 9999;", 0);
    }

    private static void linesOnceAndInOrder() {
        CHECK.faultDue("levels 0;", 4, 7);
        CHECK.faultDue("levels 5;", 4, 7);
        CHECK.faultDue("levels x;", 2, 7);
        CHECK.faultDue("levels;", 2, 6);
        CHECK.faultDue("levels 2;levels 2;", 2, 9);
        CHECK.faultDue("rel a has;levels 2;", 2, 10);
        CHECK.faultDue("draw 1;draw 1;", 2, 7);
        CHECK.faultDue("drift 1;drift 1;", 2, 8);
        CHECK.faultDue("keep 1;keep 1;", 2, 7);
        CHECK.faultDue("drift 101;", 4, 6);
        CHECK.faultDue("draw 999", 2, 8);
        CHECK.faultDue("draw 999  ", 2, 10);
        CHECK.faultDue(";", 2, 0);
        CHECK.faultDue("same;", 2, 0);
        CHECK.faultDue("7;", 2, 0);
        PairTree tree = CHECK.good("draw 999;drift 100;keep 1;levels 4;rel a has;", 1);
        CHECK.due("levels", tree.about(1), 4);
        CHECK.due("seed", tree.about(5), 999);
        CHECK.due("drift", tree.about(13), 100);
        CHECK.due("size", CHECK.good("levels 1;", 0).about(2), 2);
    }

    private static void namesAndPairs() {
        CHECK.faultDue("rel", 2, 3);
        CHECK.faultDue("rel a", 2, 5);
        CHECK.faultDue("rel 1 has;", 2, 4);
        CHECK.faultDue("rel a or;", 2, 6);
        CHECK.faultDue("rel a has;rel a has;", 3, 14);
        CHECK.faultDue("rel a has;rel b is a;rel a is b;", 3, 25);
        String[] words = {"levels", "rel", "has", "is", "keep", "drift", "draw", "or", "less", "and", "then", "back",
            "same", "all", "not", "row", "column", "many"};
        for (String word : words) {
            CHECK.faultDue("rel " + word + " has;", 2, 4);
        }
        for (String word : new String[] {"x", "y", "z", "e", "both", "one", "sum", "term", "unit", "line", "store"}) {
            CHECK.good("rel " + word + " has;", 1);
        }
        CHECK.faultDue("rel a has 8 0;", 4, 10);
        CHECK.faultDue("rel a has 0 8;", 4, 12);
        CHECK.faultDue("levels 1;rel a has 1 1 1 2;", 4, 25);
        CHECK.faultDue("rel a has 0;", 2, 11);
        CHECK.faultDue("rel a has 0 1 2;", 2, 15);
        CHECK.faultDue("rel a has 0 a;", 2, 12);
        PairTree tree = CHECK.good("rel a has" + Check.many(" 1 2", 39) + " 0 0;", 1);
        CHECK.due("pairs told again", tree.relation(0, 1), 2);
        // the row of the 41st pair: it can't stand there, whatever number it is
        CHECK.faultDue("rel a has" + Check.many(" 1 2", 40) + " 1 2;", 2, 9 + 160 + 1);
        CHECK.faultDue("rel a has" + Check.many(" 1 2", 40) + " 99 2;", 2, 9 + 160 + 1);
        CHECK.faultDue("rel a has" + Check.many(" 1 2", 40) + " 9x 2;", 1, 9 + 160 + 1);
        CHECK.good("rel a has;rel b has;rel c has;rel d has;rel e has;", 5);
        CHECK.faultDue("rel a has;rel b has;rel c has;rel d has;rel e has;rel a has;", 2, 50);
    }

    private static void derivedTexts() {
        CHECK.faultDue("rel a is a;", 5, 9);
        CHECK.faultDue("rel a is b;rel b has;", 5, 9);
        CHECK.faultDue("rel a is row;", 2, 9);
        CHECK.faultDue("rel a is;", 2, 8);
        CHECK.faultDue("rel a is same or;", 2, 16);
        CHECK.faultDue("rel a is same all;", 2, 14);
        CHECK.faultDue("rel a is (same;", 2, 14);
        CHECK.faultDue("rel a is same);", 2, 13);
        CHECK.faultDue("rel a is not same;", 2, 9);
        CHECK.faultDue("rel a is back;", 2, 13);
        CHECK.faultDue("rel a is 1;", 2, 9);
        String thirty = "rel a is same" + Check.many(" or all", 29);
        CHECK.good(thirty + ";", 1);
        CHECK.faultDue(thirty + " or q;", 2, thirty.length() + 4);
        CHECK.faultDue(thirty + ";rel b is back(all);", 2, thirty.length() + 1 + 14);
        CHECK.good("rel a is (((((same)))));", 1);
        CHECK.faultDue("rel a is ((((((same))))));", 2, 15);
        CHECK.good("rel a is back back back back back same;", 1);
        CHECK.faultDue("rel a is back back back back back back same;", 2, 39);
        CHECK.faultDue("rel a is back(back(q));", 5, 19);
        CHECK.faultDue("rel a is back(back(q", 5, 19);
        CHECK.faultDue("rel a is back(back(back(q", 2, 24);
        CHECK.faultDue("rel a is back(back(back(qqqqqqqqq", 1, 24);
        CHECK.faultDue("rel a is ((((((q;", 2, 15);
        CHECK.good("rel a is (same)or(((((all)and all))));", 1);
    }

    private static void formulas() {
        CHECK.faultDue("keep;", 2, 4);
        CHECK.faultDue("keep a;", 2, 5);
        CHECK.faultDue("keep -1;", 2, 5);
        CHECK.faultDue("keep 1<2<3;", 2, 8);
        CHECK.faultDue("keep 1 not 2;", 2, 7);
        CHECK.faultDue("keep 1+not 2;", 2, 7);
        CHECK.faultDue("keep (1;", 2, 7);
        CHECK.faultDue("keep 1);", 2, 6);
        CHECK.faultDue("keep same;", 2, 5);
        CHECK.faultDue("keep 1<;", 2, 7);
        CHECK.due("units", CHECK.good("keep row+column*many<7;", 0).about(11), 4);
        CHECK.due("a ( e ) is a unit", CHECK.good("keep (1)+((row));", 0).about(11), 5);
        CHECK.due("no keep", CHECK.good("", 0).about(11), 0);
        String thirty = "keep 1" + Check.many("+1", 29);
        CHECK.due("units", CHECK.good(thirty + ";", 0).about(11), 30);
        CHECK.faultDue(thirty + "+(1);", 2, thirty.length() + 1);
        CHECK.faultDue(thirty + " or not 1;", 2, thirty.length() + 8);
        CHECK.good("keep (((((((1)))))));", 0);
        CHECK.faultDue("keep ((((((((1))))))));", 2, 12);
        CHECK.good("keep not not not not not not not 1;", 0);
        CHECK.faultDue("keep not not not not not not not not 1;", 2, 33);
        CHECK.good("keep not(not(not(not 1)));", 0);
        CHECK.faultDue("keep not(not(not(not(1))));", 2, 20);
        CHECK.good("keep not not not not not not not 1 and not not not not not not not 1 or(1);", 0);
        CHECK.faultDue("keep not not not not not not not (1);", 2, 33);
    }

    /** As much as the limits let in: nothing of it may be lost. */
    private static void fullest() {
        String back = "back back back back back a";
        PairTree tree = CHECK.good("rel a has 0 1;rel b is " + back + Check.many(" less " + back, 28) + " or a;", 2);
        CHECK.due("the last one counts", tree.has(1, 0, 1), 1);
        tree = CHECK.good("rel a has 0 1;rel b is " + back + Check.many(" or " + back, 29) + ";", 2);
        CHECK.due("an odd number of backs", tree.has(1, 1, 0), 1);
        CHECK.due("an odd number of backs", tree.has(1, 0, 1), 0);
        tree = CHECK.good("rel a has 0 1;rel b is " + Check.many("all less same then (", 5) + "a" + Check.many(")", 5) + ";", 2);
        CHECK.due("five ( x ), one in the other", tree.has(1, 0, 1), 0);
        CHECK.due("five ( x ), one in the other", tree.relation(1, 1), 63);
        String not = "not not not not not not not ";
        tree = CHECK.good("rel a has 0 1;keep " + not + 0 + Check.many(" and " + not + 0, 29) + ";", 1);
        CHECK.due("units", tree.about(11), 30);
        CHECK.due("all nots count", tree.relation(0, 4), 1);
        tree = CHECK.good("rel a has 0 1;keep " + not + 0 + Check.many(" and " + not + 0, 28) + " and " + not + "1;", 1);
        CHECK.due("the last not counts", tree.relation(0, 4), 0);
        tree = CHECK.good("rel a has 0 1;keep " + Check.many("0 or 1 and 2=2+0*(", 4) + 1 + Check.many(")", 4) + ";", 1);
        CHECK.due("units", tree.about(11), 25);
        CHECK.due("what is open is kept", tree.relation(0, 4), 1);
    }

    private static void firstFault() {
        CHECK.faultDue("levels 9;rel a is q;rel a has 77 1;?", 4, 7);
        CHECK.faultDue("rel a is q;?", 5, 9);
        CHECK.faultDue("rel a has;rel a?", 3, 14);
        CHECK.faultDue("rel a has 3 4?;", 1, 13);
        CHECK.faultDue("?", 1, 0);
        CHECK.faultDue("   ?", 1, 3);
    }
}
