/** The boundaries of what is SEEN (Terms, ==== 4.) and of promises 42 to 50. */
final class SeenEdges {
    private static final int[] FAR_OUT = {-1, Integer.MIN_VALUE, Integer.MAX_VALUE};
    private static final int LONG_AGO = Integer.MIN_VALUE;
    private static final int AT_LAST = Integer.MAX_VALUE;

    private final Edges edges;

    SeenEdges(Edges edges) {
        this.edges = edges;
    }

    void run() {
        thirty();
        time();
        asTold();
        numbered();
        known();
        fitting();
        asked();
        none();
        seen();
        seenRefused();
        untell();
        later();
        fits();
        fit();
        ask();
        image();
        back();
        about();
    }

    private PairTree small() {
        return edges.good("levels 1;rel a has 0 1;", 1);
    }

    private void thirty() {
        edges.terms("SEEN, 30 at most, is TOLD at a TIME");
        PairTree tree = small();
        for (int number = 0; number < 30; number++) {
            edges.due("its number", tree.seen(0, 0, number, false), number);
        }
        edges.due("31", tree.seen(0, 0, 0, true), -1);
        edges.due("30", tree.about(8), 30);
        edges.due("one is UNTOLD", tree.untell(0), true);
        edges.due("there are 30 all the same", tree.seen(0, 0, 0, true), -1);
        edges.due("30", tree.about(8), 30);
        edges.due("not 0 is UNTOLD, not 1 and not 2 count", tree.fits(0), 1);
        edges.due("as known ahead of it", tree.fits(-1), 5);
    }

    private void time() {
        edges.terms("(0 at first, goes on), UNTOLD at a later one or the same");
        PairTree tree = small();
        edges.due("0 at first", tree.about(9), 0);
        tree.seen(0, 0, 2, true);
        tree.seen(0, 0, 1, false);
        edges.due("UNTOLD at the same", tree.untell(1), true);
        edges.due("goes on", tree.later(3), 3);
        edges.due("UNTOLD at a later one", tree.untell(0), true);
        edges.due("at 0 the first one counts", tree.fits(0), 3);
        edges.due("at 2, too", tree.fits(2), 3);
        edges.due("at 3 no more", tree.fits(3), 5);
        edges.due("what was UNTOLD at the same never counts", tree.fits(-1), 5);
    }

    private void asTold() {
        edges.terms("of RELATION 0 as it was told (TOLD or DERIVED), of which one pair, or none, was turned, which is not known");
        PairTree tree = small();
        tree.take(0, 0, 1);
        tree.put(0, 1, 1);
        tree.put(0, 1, 0);
        edges.due("SEEN", tree.seen(0, 0, 1, true), 0);
        edges.due("as told it has one: none was turned", tree.fits(0), 1);
        edges.due("none", tree.fit(0, 0), -1);
        tree.put(0, 0, 1);
        edges.due("what is now does not count", tree.fits(0), 1);
        tree = edges.good("levels 1;rel a is same;rel b is a;", 2);
        tree.seen(0, 0, 1, true);
        edges.due("DERIVED: one of both is taken out", tree.fits(0), 2);
        edges.due("0 0", tree.fit(0, 0), 0);
        edges.due("1 1", tree.fit(1, 0), 3);
        tree = edges.good("levels 1;rel a has;rel b is all;", 2);
        tree.seen(0, 0, 4, true);
        edges.due("not of RELATION 1", tree.fits(0), 0);
    }

    private void numbered() {
        edges.terms("that in a BLOCK of a level (numbered by rows, then columns, from 0 on) there were so many pairs, or were not.");
        PairTree tree = edges.good("levels 2;rel a has;", 1);
        for (int block = 0; block < 16; block++) {
            Check.storeText(tree, "levels 2;rel a has;");
            tree.seen(2, block, 1, true);
            edges.due("BLOCK " + block + " of level 2: one FITS", tree.fits(0), 1);
            edges.due("its place", tree.fit(0, 0), block);
        }
        int[][] quarters = {{0, 1, 4, 5}, {2, 3, 6, 7}, {8, 9, 12, 13}, {10, 11, 14, 15}};
        for (int block = 0; block < 4; block++) {
            Check.storeText(tree, "levels 2;rel a has;");
            tree.seen(1, block, 0, false);
            edges.due("BLOCK " + block + " of level 1: four FIT", tree.fits(0), 4);
            for (int i = 0; i < 4; i++) {
                edges.due("its places", tree.fit(i, 0), quarters[block][i]);
            }
        }
        tree = small();
        tree.seen(0, 0, 1, false);
        edges.due("were not: one more or one less", tree.fits(0), 4);
        tree.seen(0, 0, 0, false);
        edges.due("were not: one more", tree.fits(0), 3);
        tree.seen(0, 0, 256, false);
        edges.due("were not what can't be", tree.fits(0), 3);
        tree.seen(0, 0, 256, true);
        edges.due("what can't be", tree.fits(0), 0);
    }

    private void known() {
        edges.terms("As known at k that counts that was TOLD at k or before, not UNTOLD at k or before.");
        PairTree tree = small();
        tree.later(10);
        tree.seen(0, 0, 2, true);
        tree.later(10);
        tree.untell(0);
        int[][] due = {{LONG_AGO, 5}, {-1, 5}, {0, 5}, {9, 5}, {10, 3}, {11, 3}, {19, 3}, {20, 5}, {21, 5}, {AT_LAST, 5}};
        for (int[] d : due) {
            edges.due("fits at " + d[0], tree.fits(d[0]), d[1]);
        }
        edges.due("fit at 9", tree.fit(0, 9), -1);
        edges.due("fit at 10", tree.fit(0, 10), 0);
        edges.due("fit at 20", tree.fit(0, 20), -1);
        edges.due("ask at 9", tree.ask(1, 1, 9), 4);
        edges.due("ask at 10", tree.ask(1, 1, 10), 2);
        edges.due("ask at 20", tree.ask(1, 1, 20), 4);
        tree.seen(0, 0, 0, true);
        edges.due("ahead of it", tree.fits(19), 3);
        edges.due("from now on", tree.fits(20), 1);
        edges.due("not UNTOLD, for ever", tree.fits(AT_LAST), 1);
    }

    private void fitting() {
        edges.terms("FITS: what may have been turned by which all that counts is so: -1 (none), or SIZE times the row and the column.");
        for (int levels = 1; levels <= 4; levels++) {
            PairTree tree = edges.good("levels " + levels + ";rel a has 0 0;", 1);
            int size = 1 << levels;
            edges.due("all", tree.fits(0), size * size + 1);
            edges.due("none first", tree.fit(0, 0), -1);
            edges.due("0 0", tree.fit(1, 0), 0);
            edges.due("1 0", tree.fit(size + 1, 0), size);
            edges.due("the last", tree.fit(size * size, 0), size * size - 1);
            tree.seen(0, 0, 2, true);
            edges.due("all but none and 0 0", tree.fits(0), size * size - 1);
            edges.due("0 1", tree.fit(0, 0), 1);
            tree.seen(1, 3, 1, true);
            edges.due("all in the last QUARTER", tree.fits(0), size * size / 4);
            edges.due("the first of it", tree.fit(0, 0), size / 2 * size + size / 2);
            tree.seen(1, 3, 0, true);
            edges.due("both can't be", tree.fits(0), 0);
        }
        PairTree tree = edges.good("levels 1;rel a is all;", 1);
        tree.seen(0, 0, 3, true);
        edges.due("each of four may be taken out", tree.fits(0), 4);
        tree.seen(0, 0, 5, false);
        edges.due("none can be put in", tree.fits(0), 4);
        tree = edges.good("levels 4;rel a is all;", 1);
        tree.seen(0, 0, 256, true);
        edges.due("256: none was turned", tree.fits(0), 1);
        edges.due("256: none was turned", tree.fit(0, 0), -1);
    }

    private void asked() {
        edges.terms("ASK for a level: the BLOCK of which to know how many pairs it had would leave the fewest of these at the most;");
        PairTree tree = edges.good("levels 2;rel a has 3 3;", 1);
        // 17 FIT; a QUARTER with 3 3: 12 + 1 as told, 3 with one more, 1 with one less; each other one: 13 as told, 4 with one more
        edges.due("a QUARTER leaves", tree.ask(1, 1, 0), 13);
        edges.due("the whole: one as told, 15 with one more, 1 with one less", tree.ask(0, 1, 0), 15);
        edges.due("a place leaves", tree.ask(2, 1, 0), 16);
        tree.seen(1, 0, 0, true);
        tree.seen(1, 1, 0, true);
        tree.seen(1, 2, 0, true);
        edges.due("none, or in the last QUARTER", tree.fits(0), 5);
        edges.due("the last QUARTER is to be asked", tree.ask(1, 0, 0), 3);
        edges.due("three are left: with one more", tree.ask(1, 1, 0), 3);
        tree.seen(0, 0, 2, true);
        edges.due("three with one more", tree.fits(0), 3);
        edges.due("the first place that parts them", tree.ask(2, 0, 0), 10);
        edges.due("two are left", tree.ask(2, 1, 0), 2);
        tree.seen(2, 10, 0, true);
        edges.due("two", tree.fits(0), 2);
        edges.due("the next place", tree.ask(2, 0, 0), 11);
        edges.due("one is left", tree.ask(2, 1, 0), 1);
        tree = edges.good("levels 4;rel a has 15 15;", 1);
        tree.seen(0, 0, 2, false);
        tree.seen(4, 254, 0, true);
        edges.due("none, or 15 15 is taken out", tree.fits(0), 2);
        int[] last = {0, 3, 15, 63, 255};
        for (int level = 0; level <= 4; level++) {
            edges.due("the last BLOCK of level " + level, tree.ask(level, 0, 0), last[level]);
            edges.due("one is left", tree.ask(level, 1, 0), 1);
        }
        tree = edges.good("levels 1;rel a is all;", 1);
        edges.due("none, or one of four is taken out: the whole leaves", tree.ask(0, 1, 0), 4);
        tree.seen(0, 0, 3, true);
        edges.due("one of four is taken out: a place leaves", tree.ask(1, 1, 0), 3);
        tree.seen(1, 0, 1, true);
        tree.seen(1, 1, 1, true);
        edges.due("one of two", tree.ask(1, 1, 0), 1);
        edges.due("the first that parts them", tree.ask(1, 0, 0), 2);
        tree = edges.good("levels 1;rel a has 0 0 0 1;", 1);
        tree.seen(0, 0, 2, false);
        edges.due("two with one more, two with one less", tree.ask(0, 1, 0), 2);
        tree = edges.good("levels 2;rel a has 3 3;", 1);
        tree.seen(1, 3, 2, true);
        tree.seen(2, 10, 0, true);
        edges.terms("of like ones the first.");
        edges.due("no QUARTER parts them: the first", tree.ask(1, 0, 0), 0);
        edges.due("both are left", tree.ask(1, 1, 0), 2);
        tree.seen(2, 11, 1, true);
        edges.due("one FITS", tree.fits(0), 1);
        edges.due("any place: the first", tree.ask(2, 0, 0), 0);
        edges.due("it is left", tree.ask(2, 1, 0), 1);
    }

    private void none() {
        edges.terms("`NONE = -1`: There is none.");
        edges.due("NONE", PairTree.NONE, -1);
    }

    private void seen() {
        edges.promise(42, "A SEEN (a level, a BLOCK, how many 0 .. 256): its number");
        PairTree tree = edges.good("levels 4;rel a has;", 1);
        edges.due("the first", tree.seen(0, 0, 0, true), 0);
        edges.due("256", tree.seen(0, 0, 256, true), 1);
        edges.due("the last BLOCK of level 1", tree.seen(1, 3, 0, false), 2);
        edges.due("the last BLOCK of level 4", tree.seen(4, 255, 0, false), 3);
        edges.due("more than a BLOCK has places", tree.seen(4, 0, 2, true), 4);
        edges.due("the same again", tree.seen(4, 0, 2, true), 5);
        tree.untell(5);
        edges.due("numbers go on", tree.seen(4, 0, 2, true), 6);
        edges.due("no ACT", tree.about(6), 0);
    }

    private void seenRefused() {
        edges.promise(42, "NONE, doing nothing, if one can't be, there are 30, or no RELATIONS");
        PairTree tree = edges.good("levels 2;rel a has;", 1);
        int[][] wrong = {{-1, 0, 0}, {3, 0, 0}, {0, -1, 0}, {0, 1, 0}, {1, 4, 0}, {2, 16, 0}, {0, 0, -1}, {0, 0, 257}};
        for (int[] w : wrong) {
            edges.due(w[0] + ", " + w[1] + ", " + w[2], tree.seen(w[0], w[1], w[2], true), -1);
        }
        for (int out : FAR_OUT) {
            edges.due("level " + out, tree.seen(out, 0, 0, true), -1);
            edges.due("BLOCK " + out, tree.seen(0, out, 0, true), -1);
            edges.due("many " + out, tree.seen(0, 0, out, true), -1);
        }
        edges.due("nothing is done", tree.about(8), 0);
        edges.due("all FIT", tree.fits(0), 17);
        for (int times = 0; times < 30; times++) {
            tree.seen(0, 0, 0, true);
        }
        edges.due("there are 30", tree.seen(0, 0, 1, true), -1);
        edges.due("nothing is done", tree.about(8), 30);
        edges.due("none was turned", tree.fits(0), 1);
        tree = edges.good("levels 2;", 0);
        edges.due("no RELATIONS", tree.seen(0, 0, 0, true), -1);
        edges.due("nothing is done", tree.about(8), 0);
        edges.due("a new object", new PairTree().seen(0, 0, 0, true), -1);
    }

    private void untell() {
        edges.promise(43, "It is UNTOLD: true; false if it is so already, or there is none such");
        PairTree tree = small();
        edges.due("none such", tree.untell(0), false);
        tree.seen(0, 0, 2, true);
        edges.due("UNTOLD", tree.untell(0), true);
        edges.due("so already", tree.untell(0), false);
        tree.later(5);
        edges.due("so already, later", tree.untell(0), false);
        edges.due("UNTOLD at 0, not at 5", tree.fits(0), 5);
        edges.due("number 1", tree.untell(1), false);
        for (int out : new int[] {-1, 30, Integer.MIN_VALUE, Integer.MAX_VALUE}) {
            edges.due("number " + out, tree.untell(out), false);
        }
        Check.storeText(tree, "levels 1;rel a has 0 1;");
        edges.due("gone with the STORE", tree.untell(0), false);
        edges.due("a new one is not UNTOLD", tree.seen(0, 0, 2, true), 0);
        edges.due("it counts", tree.fits(5), 3);
        edges.due("it can be UNTOLD", tree.untell(0), true);
    }

    private void later() {
        edges.promise(44, "So much later (0 .. 1000): the TIME");
        PairTree tree = new PairTree();
        edges.due("0", tree.later(0), 0);
        edges.due("1000", tree.later(1000), 1000);
        edges.due("1", tree.later(1), 1001);
        edges.promise(44, "NONE, doing nothing, for another number, or if it would be above 100,000");
        for (int out : new int[] {-1, 1001, Integer.MIN_VALUE, Integer.MAX_VALUE}) {
            edges.due("by " + out, tree.later(out), -1);
        }
        edges.due("nothing is done", tree.about(9), 1001);
        for (int times = 2; times < 100; times++) {
            edges.due("1000", tree.later(1000), 1000 * times + 1);
        }
        edges.due("100,001", tree.later(1000), -1);
        edges.due("nothing is done", tree.about(9), 99001);
        edges.due("100,000 just", tree.later(999), 100000);
        edges.due("1 more", tree.later(1), -1);
        edges.due("0 more", tree.later(0), 100000);
    }

    private void fits() {
        edges.promise(45, "FITS: how many (0 without RELATIONS)");
        edges.due("without RELATIONS", edges.good("levels 1;", 0).fits(0), 0);
        edges.due("a new object", new PairTree().fits(0), 0);
        PairTree tree = small();
        edges.due("all", tree.fits(0), 5);
        tree.seen(0, 0, 9, true);
        edges.due("none of them", tree.fits(0), 0);
        edges.due("the most there can be", edges.good("levels 4;rel a has;", 1).fits(0), 257);
        tree.store();
        edges.due("without RELATIONS again", tree.fits(0), 0);
    }

    private void fit() {
        edges.promise(46, "The i-th (0 ..) of FITS, from -1 on");
        PairTree tree = small();
        for (int i = 0; i < 5; i++) {
            edges.due("all: " + i, tree.fit(i, 0), i - 1);
        }
        edges.promise(46, "-2 if there is none such");
        edges.due("behind the last", tree.fit(5, 0), -2);
        for (int out : FAR_OUT) {
            edges.due("i " + out, tree.fit(out, 0), -2);
        }
        tree.seen(0, 0, 2, true);
        edges.due("the last of three", tree.fit(2, 0), 3);
        edges.due("behind the last of three", tree.fit(3, 0), -2);
        tree.seen(0, 0, 0, true);
        edges.due("none FITS", tree.fit(0, 0), -2);
        edges.due("without RELATIONS", new PairTree().fit(0, 0), -2);
    }

    private void ask() {
        edges.promise(47, "ASK what 0: the BLOCK, 1: how many are left at the most");
        PairTree tree = small();
        edges.due("the whole", tree.ask(0, 0, 0), 0);
        edges.due("three are left", tree.ask(0, 1, 0), 3);
        edges.due("a place", tree.ask(1, 0, 0), 0);
        edges.due("four are left", tree.ask(1, 1, 0), 4);
        edges.promise(47, "NONE if none FITS, or one can't be");
        edges.due("level 2", tree.ask(2, 0, 0), -1);
        edges.due("what 2", tree.ask(0, 2, 0), -1);
        for (int out : FAR_OUT) {
            edges.due("level " + out, tree.ask(out, 0, 0), -1);
            edges.due("what " + out, tree.ask(0, out, 0), -1);
        }
        tree.seen(0, 0, 9, true);
        edges.due("none FITS", tree.ask(0, 0, 0), -1);
        edges.due("none FITS", tree.ask(1, 1, 0), -1);
        edges.due("ahead of it they do", tree.ask(1, 1, -1), 4);
        edges.due("without RELATIONS", new PairTree().ask(0, 0, 0), -1);
        edges.due("without RELATIONS", new PairTree().ask(0, 1, 0), -1);
    }

    private PairTree boxed() {
        return edges.good("levels 2;rel a has 0 1 1 2;rel b is back a;rel c has 3 3;drift 100;draw 7;", 3);
    }

    private void image() {
        edges.promise(48, "Pairs of all TOLD ones, the SEED are kept in a BOX 0 .. 2: how many pairs");
        PairTree tree = boxed();
        edges.due("BOX 0", tree.image(0), 3);
        tree.put(2, 0, 0);
        edges.due("BOX 1", tree.image(1), 4);
        tree.become(0, 2, 0, 0);
        tree.drift();
        edges.due("BOX 2", tree.image(2), tree.about(4));
        int seed = tree.about(5);
        edges.due("no ACT, ACTS stay", tree.about(6), 3);
        edges.due("BOX 1 is as it was kept", tree.back(1), 4);
        edges.due("its SEED", tree.about(5), 7);
        edges.due("BOX 2 is as it was kept", tree.back(2), tree.about(4));
        edges.due("its SEED", tree.about(5), seed);
        edges.due("BOX 0 is as it was kept", tree.back(0), 3);
        tree.take(2, 3, 3);
        edges.due("kept anew", tree.image(0), 2);
        edges.due("the latest counts", tree.back(0), 2);
        edges.due("without pairs", new PairTree().image(0), 0);
        edges.promise(48, "NONE if there is none such");
        for (int out : new int[] {-1, 3, Integer.MIN_VALUE, Integer.MAX_VALUE}) {
            edges.due("BOX " + out, tree.image(out), -1);
        }
    }

    private void back() {
        edges.promise(49, "All is as it was kept (no ACTS are kept then): how many pairs");
        PairTree tree = boxed();
        tree.image(1);
        tree.put(0, 3, 3);
        tree.take(2, 3, 3);
        tree.drift();
        tree.undo();
        edges.due("back", tree.back(1), 3);
        edges.due("0 1", tree.has(0, 0, 1), 1);
        edges.due("3 3 of a", tree.has(0, 3, 3), 0);
        edges.due("3 3 of c", tree.has(2, 3, 3), 1);
        edges.due("the DERIVED one", tree.has(1, 3, 3), 0);
        edges.due("the SEED", tree.about(5), 7);
        edges.due("no undo", tree.undo(), false);
        edges.due("no redo", tree.redo(), false);
        edges.due("ACTS", tree.about(6) + tree.about(7), 0);
        tree.put(0, 3, 3);
        edges.due("gone on from: one ACT", tree.about(6), 1);
        edges.due("undo", tree.undo(), true);
        edges.due("as it was kept", tree.about(4), 3);
        edges.due("it can be gone back to again", tree.back(1), 3);
        edges.promise(49, "NONE, doing nothing, if nothing was");
        tree.put(0, 0, 0);
        int[] ahead = Edges.about(tree);
        for (int out : new int[] {0, 2, 3, -1, Integer.MIN_VALUE, Integer.MAX_VALUE}) {
            edges.due("BOX " + out, tree.back(out), -1);
        }
        edges.aboutDue("nothing is done", tree, ahead);
        edges.due("undo still can be", tree.undo(), true);
        PairTree none = new PairTree();
        none.image(2);
        edges.due("none of none was kept", none.back(2), 0);
        edges.due("nothing was", none.back(1), -1);
    }

    private void about() {
        edges.promise(50, "What 0: RELATIONS, 1: levels, 2: SIZE, 3: TOLD ones, as bits, 4: pairs of all TOLD ones, 5: the SEED, 6: ACTS that"
            + " can be undone, 7: redone, 8: what is SEEN, 9: the TIME, 10: bytes on the TAPE, 11: units, 12: numbers that lie there,"
            + " 13: drift in 100.");
        PairTree tree = edges.good("levels 4;rel a is all;rel b has 1 1 2 2;rel c is b;rel d has;rel e has 0 0;keep (row)=1;drift 7;draw 3;", 5);
        tree.put(1, 0, 0);
        tree.put(1, 0, 1);
        tree.put(4, 0, 2);
        tree.undo();
        tree.seen(0, 0, 0, true);
        tree.later(12);
        tree.feed(0, 0, 0, 0, 0);
        tree.row(1, 0);
        edges.aboutDue("used", tree, 5, 4, 16, 26, 5, 3, 2, 1, 1, 12, 20, 3, 2, 7);
        edges.due("all are TOLD", edges.good("rel a has;rel b has;rel c has;rel d has;rel e has;", 5).about(3), 31);
        edges.due("none is TOLD", edges.good("rel a is all;rel b is same;", 2).about(3), 0);
        edges.due("pairs of DERIVED ones do not count", edges.good("rel a is all;rel b is same;", 2).about(4), 0);
        edges.promise(50, "NONE for another what");
        edges.due("what 14", tree.about(14), -1);
        for (int out : FAR_OUT) {
            edges.due("what " + out, tree.about(out), -1);
        }
    }
}
