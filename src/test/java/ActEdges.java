/** The boundaries of RELATIONS and ACTS (Terms, ==== 2.) and of promises 6 to 14. */
final class ActEdges {
    private static final int[] NO_RELATIONS = {-1, 3, 5, 6, Integer.MIN_VALUE, Integer.MAX_VALUE};
    private static final int[] NO_NODES = {-1, 4, 16, 32, Integer.MIN_VALUE, Integer.MAX_VALUE};
    private static final String THREE = "levels 2;rel a has 0 1 1 2;rel b has 1 2 3 3;rel c is a or b;";

    private final Edges edges;

    ActEdges(Edges edges) {
        this.edges = edges;
    }

    void run() {
        size();
        derived();
        ofToldOnesAlone();
        becomes();
        sifted();
        formulas();
        seed();
        turned();
        undone();
        relation();
        has();
        putAndTake();
        become();
        sift();
        drift();
        undoAndRedo();
    }

    private void size() {
        edges.terms("There are SIZE rows and columns, 2 to the power of levels, numbered from 0.");
        for (int levels = 1; levels <= 4; levels++) {
            PairTree tree = edges.good("levels " + levels + ";rel a is all;", 1);
            int size = 1 << levels;
            edges.due("SIZE", tree.about(2), size);
            edges.due("pairs of all", tree.relation(0, 1), size * size);
            edges.due("the last row", tree.row(0, size - 1), size);
            edges.due("no row SIZE", tree.row(0, size), -1);
            edges.due("the last column", tree.column(0, size - 1), size);
            edges.due("no column SIZE", tree.column(0, size), -1);
        }
        edges.terms("as told, if told by has (TOLD); or it is DERIVED: always just what comes of its x");
        PairTree tree = edges.good("levels 2;rel a has 0 1;rel b is a;rel c is back b or same;rel d has;", 4);
        edges.due("TOLD", tree.relation(0, 0), 1);
        edges.due("DERIVED", tree.relation(1, 0), 0);
        edges.due("TOLD without pairs", tree.relation(3, 0), 1);
        tree.put(0, 2, 3);
        edges.due("put: followed", tree.has(2, 3, 2), 1);
        tree.undo();
        edges.due("undo: followed", tree.has(2, 3, 2), 0);
        tree.redo();
        edges.due("redo: followed", tree.has(2, 3, 2), 1);
        tree.image(0);
        tree.become(0, 2, 0, 0);
        edges.due("become: followed", tree.relation(2, 1), 4);
        tree.back(0);
        edges.due("back: followed", tree.has(2, 3, 2), 1);
    }

    private void derived() {
        String told = "levels 2;rel a has 0 1 1 1 3 0;rel n has;";
        String[] xs = {"a or n", "a or a", "a or all", "a and n", "a and all", "a less n", "n less a", "a less a", "all less a",
            "a then n", "n then a", "a then same", "same then a", "all then all", "back n", "back same", "back all", "n or n"};
        int[] pairs = {3, 3, 16, 0, 3, 3, 0, 0, 13, 0, 0, 3, 3, 16, 0, 4, 16, 0};
        edges.terms("or, and, less (those of the first one that the second one has not)");
        for (int i = 0; i < xs.length; i++) {
            edges.due(xs[i], edges.good(told + "rel x is " + xs[i] + ";", 3).relation(2, 1), pairs[i]);
        }
        edges.terms("then (row r, column c, if there is a k such that the first one has r, k and the second one k, c)");
        PairTree tree = edges.good("levels 2;rel a has 0 1 0 2 3 3;rel b has 1 3 2 3 3 0;rel x is a then b;rel y is b then a;", 4);
        edges.due("0 3, by two k, counts once", tree.relation(2, 1), 2);
        edges.due("0 3", tree.has(2, 0, 3), 1);
        edges.due("3 0", tree.has(2, 3, 0), 1);
        edges.due("the other way: 1 3, 2 3, 3 1, 3 2", tree.relation(3, 1), 4);
        edges.due("3 1", tree.has(3, 3, 1), 1);
        edges.terms("back (column and row changed over), same (each row with the column of its number), all");
        tree = edges.good("levels 2;rel a has 0 3 2 2;rel x is back a;rel s is same;rel f is all;", 4);
        edges.due("3 0", tree.has(1, 3, 0), 1);
        edges.due("0 3", tree.has(1, 0, 3), 0);
        edges.due("2 2", tree.has(1, 2, 2), 1);
        for (int row = 0; row < 4; row++) {
            for (int column = 0; column < 4; column++) {
                edges.due("same " + row + " " + column, tree.has(2, row, column), row == column ? 1 : 0);
                edges.due("all " + row + " " + column, tree.has(3, row, column), 1);
            }
        }
    }

    private void ofToldOnesAlone() {
        edges.terms("ACTS (of TOLD ones alone): a pair is put in, taken out");
        PairTree tree = edges.good(THREE + "drift 100;draw 817;", 3);
        edges.due("put", tree.put(2, 0, 0), -1);
        edges.due("take", tree.take(2, 0, 1), -1);
        edges.due("become", tree.become(2, 0, 0, 1), -1);
        edges.due("sift", tree.sift(2), -1);
        edges.due("no ACT", tree.about(6), 0);
        edges.due("nothing is done", tree.relation(2, 1), 3);
        edges.due("put in", tree.put(0, 0, 0), 3);
        edges.due("taken out", tree.take(0, 0, 1), 2);
        edges.due("two ACTS", tree.about(6), 2);
    }

    private void becomes() {
        edges.terms("a RELATION BECOMES what comes of two (as they are then; it may be one of them)");
        PairTree tree = edges.good(THREE, 3);
        edges.due("itself then itself", tree.become(0, 3, 0, 0), 1);
        edges.due("0 2", tree.has(0, 0, 2), 1);
        edges.due("once more: none", tree.become(0, 3, 0, 0), 0);
        tree = edges.good(THREE, 3);
        edges.due("the other one less itself", tree.become(0, 2, 1, 0), 1);
        edges.due("3 3", tree.has(0, 3, 3), 1);
        edges.due("what is DERIVED of it", tree.become(0, 2, 2, 0), 1);
        edges.due("1 2, as c was then", tree.has(0, 1, 2), 1);
        edges.due("c follows", tree.relation(2, 1), 2);
        tree.put(1, 0, 0);
        edges.due("what it became stays", tree.relation(0, 1), 1);
    }

    private void sifted() {
        edges.terms("SIFTED: all pairs are taken out for which what comes of keep (1, if it is not told)");
        PairTree tree = edges.good("levels 2;rel a is all;rel b has 0 0 3 3 3 0;", 2);
        edges.due("not told: all would stay", tree.relation(0, 4), 16);
        edges.due("not told: none is gone", tree.sift(1), 0);
        edges.due("all are there", tree.relation(1, 1), 3);
        tree = edges.good("levels 2;rel b has 0 0 3 3 3 0;keep 0;", 1);
        edges.due("all are gone", tree.sift(0), 3);
        edges.due("none of none", tree.sift(0), 0);
        edges.terms("by row, column, many (how many pairs it has ahead of that;");
        tree = edges.good("levels 2;rel a has 0 1 1 0 2 2 3 3;keep row<column or many=3;", 1);
        edges.due("by row and column", tree.relation(0, 4), 1);
        tree.take(0, 3, 3);
        edges.due("many is 3 for each", tree.sift(0), 0);
        tree.take(0, 2, 2);
        edges.due("many is 2 for each", tree.sift(0), 1);
        edges.due("0 1 is left", tree.has(0, 0, 1), 1);
        tree = edges.good("levels 4;rel a is all;keep many=256 and row=15 and column=0;", 1);
        edges.due("256 pairs", tree.relation(0, 4), 1);
    }

    private void comes(String formula) {
        PairTree tree = edges.good("rel a has 7 6;keep " + formula + ";", 1);
        edges.due(formula, tree.relation(0, 4), 1);
        tree = edges.good("rel a has 7 6;keep not(" + formula + ");", 1);
        edges.due("not(" + formula + ")", tree.sift(0), 1);
    }

    private void formulas() {
        edges.terms("ints, wrapping;");
        comes("9999*9999*9999=0-((9999*10+2755)*9999+2714)");
        comes("256*256*128*256<0");
        comes("256*256*128*256-1>0");
        comes("256*256*128*256-1+1<0");
        comes("0-256*256*128*256=256*256*128*256");
        comes("256*256*128*256+256*256*128*256=0");
        comes("256*256*256*256=0");
        edges.terms("/ cut, % its rest, both by 0: 0;");
        comes("7/2=3");
        comes("(0-7)/2=0-3");
        comes("7/(0-2)=0-3");
        comes("(0-7)/(0-2)=3");
        comes("7%2=1");
        comes("(0-7)%2=0-1");
        comes("7%(0-2)=1");
        comes("256*256*128*256/(0-1)=256*256*128*256");
        comes("256*256*128*256%(0-1)=0");
        comes("7/(row-7)=0");
        comes("7%(column-6)=0");
        comes("0/0=0");
        comes("0%0=0");
        edges.terms("relations, and, or, not are 1 or 0, of what is not 0)");
        comes("(5<6)+(6>5)+(5=5)=3");
        comes("(5<5)+(5>5)+(5=6)=0");
        comes("(7 and 9)=1");
        comes("(7 and 0)=0");
        comes("(0-1 and 0-2)=1");
        comes("(0 or 9)=1");
        comes("(0 or 0)=0");
        comes("(0-3 or 0)=1");
        comes("(not 0)=1");
        comes("(not 7)=0");
        comes("(not 0-7)=0");
        edges.terms("is 0; DRIFT");
        comes("0-1");
        comes("9999");
        comes("not(row-7)");
    }

    private void drawn(String text, int seed, int turned) {
        PairTree tree = edges.good(text, text.split("rel ", -1).length - 1);
        edges.due(text + " drift", tree.drift(), turned);
        edges.due(text + " SEED", tree.about(5), seed);
    }

    private void seed() {
        edges.terms("the SEED (draw, at first) becomes its 137-fold and 71 more, modulo 1,000");
        PairTree tree = edges.good("draw 999;", 0);
        edges.due("draw, at first", tree.about(5), 999);
        int[] seeds = {934, 29, 44, 99, 634, 929, 344, 199, 334, 829};
        for (int seed : seeds) {
            tree.drift();
            edges.due("the SEED goes on", tree.about(5), seed);
        }
        drawn("draw 744;", 999, -1);
        drawn("draw 817;", 0, -1);
        drawn("draw 0;", 71, -1);
        edges.terms("if its rest by 100 is less than drift tells");
        drawn("rel a has;drift 0;draw 17;", 400, -1);
        drawn("rel a has;drift 1;draw 17;", 400, 0);
        drawn("rel a has;drift 71;", 71, -1);
        drawn("rel a has;drift 72;", 71, 0);
        drawn("rel a has;drift 99;draw 44;", 99, -1);
        drawn("rel a has;drift 100;draw 44;", 99, 0);
        drawn("rel a has;drift 99;draw 744;", 999, -1);
        drawn("rel a has;draw 817;", 0, -1);
        edges.terms("and the RELATION whose number is the SEED modulo how many there are is TOLD");
        drawn("rel a has;rel b has;rel c has;drift 100;", 71, 2);
        drawn("rel a has;rel b has;rel c is a;drift 100;", 71, -1);
        drawn("rel a has;rel b has;drift 100;", 71, 1);
        drawn("rel a has;rel b has;rel c has;rel d has;rel e has;drift 100;draw 744;", 999, 4);
        drawn("rel a has;rel b has;rel c has;rel d has;rel e is d;drift 100;draw 744;", 999, -1);
        drawn("rel a has;rel b is a;rel c is a;rel d is a;rel e is a;drift 100;draw 817;", 0, 0);
        drawn("rel a is all;drift 100;draw 817;", 0, -1);
        edges.terms("without RELATIONS the SEED goes on, nothing is turned");
        drawn("drift 100;draw 999;", 934, -1);
        drawn("", 71, -1);
    }

    private void turned() {
        edges.terms("the pair of the row SEED / 16 (cut) and the column SEED, both modulo SIZE, is turned (put in or taken out)");
        int[] draws = {744, 17, 44, 817, 0};
        int[][] places = {{62, 999}, {25, 400}, {6, 99}, {0, 0}, {4, 71}};
        for (int i = 0; i < draws.length; i++) {
            for (int levels = 1; levels <= 4; levels++) {
                int size = 1 << levels;
                int row = places[i][0] % size;
                int column = places[i][1] % size;
                String head = "levels " + levels + ";drift 100;draw " + draws[i] + ";rel a has";
                PairTree tree = edges.good(head + ";", 1);
                edges.due(head + " drift", tree.drift(), 0);
                edges.due(head + " put in", tree.has(0, row, column), 1);
                edges.due(head + " alone", tree.relation(0, 1), 1);
                tree = edges.good(head + " " + row + " " + column + ";", 1);
                edges.due(head + " drift", tree.drift(), 0);
                edges.due(head + " taken out", tree.relation(0, 1), 0);
            }
        }
    }

    private void undone() {
        edges.terms("UNDO takes back the latest ACT that was not, REDO does that again which was taken back last (till another ACT)");
        PairTree tree = edges.good(THREE, 3);
        tree.put(0, 0, 0);
        tree.put(0, 0, 2);
        tree.put(0, 0, 3);
        tree.undo();
        tree.undo();
        edges.due("0 0 is there", tree.has(0, 0, 0), 1);
        edges.due("0 2 is not", tree.has(0, 0, 2), 0);
        tree.redo();
        edges.due("0 2 first", tree.has(0, 0, 2), 1);
        edges.due("0 3 not yet", tree.has(0, 0, 3), 0);
        tree.put(1, 0, 0);
        edges.due("till another ACT", tree.redo(), false);
        edges.due("0 3 is lost", tree.has(0, 0, 3), 0);
        edges.due("three can be undone", tree.undo() && tree.undo() && tree.undo(), true);
        edges.due("no fourth", tree.undo(), false);
        edges.due("as told", tree.about(4), 4);
        edges.terms("40 at most are kept, the oldest go");
        tree = edges.good("levels 4;rel a has;drift 100;", 1);
        for (int at = 0; at < 97; at++) {
            tree.put(0, at / 16, at % 16);
            edges.due("kept", tree.about(6), Math.min(at + 1, 40));
        }
        for (int at = 96; at >= 57; at--) {
            edges.due("undo", tree.undo(), true);
            edges.due("taken back", tree.has(0, at / 16, at % 16), 0);
        }
        edges.due("no more", tree.undo(), false);
        edges.due("57 stay", tree.relation(0, 1), 57);
        edges.due("to be redone", tree.about(7), 40);
        for (int times = 0; times < 40; times++) {
            edges.due("redo", tree.redo(), true);
            edges.due("done again", tree.has(0, (57 + times) / 16, (57 + times) % 16), 1);
        }
        edges.due("no more", tree.redo(), false);
        tree.undo();
        tree.undo();
        tree.put(0, 15, 15);
        edges.due("in the place of two", tree.about(6), 39);
        tree.put(0, 15, 14);
        tree.put(0, 15, 13);
        edges.due("40 again", tree.about(6), 40);
        for (int times = 0; times < 40; times++) {
            tree.undo();
        }
        edges.due("58 stay", tree.relation(0, 1), 58);
        edges.due("the oldest one that stays", tree.has(0, 3, 9), 1);
    }

    private void relation() {
        PairTree tree = edges.good("levels 2;rel a has 0 1 1 2 3 3;rel b is a less a;rel c is all;keep row<column;", 3);
        edges.promise(6, "Of a RELATION what 0: 1 if TOLD, 0 if DERIVED");
        edges.due("TOLD", tree.relation(0, 0), 1);
        edges.due("DERIVED", tree.relation(1, 0), 0);
        edges.promise(6, "1: how many pairs");
        edges.due("three", tree.relation(0, 1), 3);
        edges.due("none", tree.relation(1, 1), 0);
        edges.due("all", tree.relation(2, 1), 16);
        edges.promise(6, "2: how many BITS");
        edges.due("three BLOCKS", tree.relation(0, 2), 16);
        edges.due("EMPTY", tree.relation(1, 2), 4);
        edges.due("full", tree.relation(2, 2), 20);
        edges.promise(6, "3: SAVED");
        edges.due("nothing", tree.relation(0, 3), 0);
        edges.due("most", tree.relation(1, 3), 12);
        edges.promise(6, "(3 may be below 0)");
        edges.due("less than nothing", tree.relation(2, 3), -4);
        edges.due("of 256", edges.good("levels 4;rel a is all;", 1).relation(0, 3), -84);
        edges.due("by 4 of 4", edges.good("levels 1;rel a has;", 1).relation(0, 3), 0);
        edges.promise(6, "4: how many pairs would stay, were it SIFTED");
        edges.due("two", tree.relation(0, 4), 2);
        edges.due("of a DERIVED one", tree.relation(2, 4), 6);
        edges.due("nothing is done", tree.relation(0, 1), 3);
        edges.promise(6, "NONE if there is none such, or for another what");
        for (int rel : NO_RELATIONS) {
            for (int what = 0; what < 5; what++) {
                edges.due("rel " + rel, tree.relation(rel, what), -1);
            }
        }
        for (int what : new int[] {-1, 5, Integer.MIN_VALUE, Integer.MAX_VALUE}) {
            edges.due("what " + what, tree.relation(0, what), -1);
        }
    }

    private void has() {
        PairTree tree = edges.good(THREE, 3);
        edges.promise(7, "Whether it has a pair: 1, 0");
        edges.due("0 1", tree.has(0, 0, 1), 1);
        edges.due("1 0", tree.has(0, 1, 0), 0);
        edges.due("the last", tree.has(1, 3, 3), 1);
        edges.due("of a DERIVED one", tree.has(2, 3, 3), 1);
        edges.promise(7, "NONE if one can't be");
        for (int rel : NO_RELATIONS) {
            edges.due("rel " + rel, tree.has(rel, 0, 1), -1);
        }
        for (int node : NO_NODES) {
            edges.due("row " + node, tree.has(0, node, 1), -1);
            edges.due("column " + node, tree.has(0, 0, node), -1);
        }
    }

    private void putAndTake() {
        PairTree tree = edges.good(THREE, 3);
        edges.promise(8, "A pair is put in: how many it has then");
        edges.due("put", tree.put(0, 3, 3), 3);
        edges.due("put", tree.put(0, 0, 0), 4);
        edges.promise(8, "(An ACT.)");
        edges.due("two ACTS", tree.about(6), 2);
        edges.promise(8, "NONE, doing nothing, if it has it, is DERIVED, or one can't be");
        edges.due("it has it", tree.put(0, 0, 1), -1);
        edges.due("it is DERIVED", tree.put(2, 0, 3), -1);
        tree.undo();
        int[] ahead = Edges.about(tree);
        refuseTurns(tree, true);
        edges.aboutDue("nothing is done", tree, ahead);
        edges.due("redo can still be", tree.redo(), true);
        edges.promise(9, "It is taken out: likewise");
        edges.due("take", tree.take(0, 0, 1), 3);
        edges.due("take", tree.take(1, 1, 2), 1);
        edges.due("the last one", tree.take(1, 3, 3), 0);
        edges.promise(9, "(An ACT.)");
        edges.due("five ACTS", tree.about(6), 5);
        edges.promise(9, "NONE, doing nothing, if it has it not, is DERIVED, or one can't be");
        edges.due("it has it not", tree.take(0, 0, 1), -1);
        edges.due("it is DERIVED", tree.take(2, 1, 2), -1);
        tree.undo();
        ahead = Edges.about(tree);
        refuseTurns(tree, false);
        edges.aboutDue("nothing is done", tree, ahead);
        edges.due("redo can still be", tree.redo(), true);
    }

    private void refuseTurns(PairTree tree, boolean isPut) {
        for (int rel : NO_RELATIONS) {
            edges.due("rel " + rel, isPut ? tree.put(rel, 0, 3) : tree.take(rel, 1, 2), -1);
        }
        for (int node : NO_NODES) {
            edges.due("row " + node, isPut ? tree.put(0, node, 0) : tree.take(0, node, 0), -1);
            edges.due("column " + node, isPut ? tree.put(0, 2, node) : tree.take(0, 2, node), -1);
        }
    }

    private void become() {
        edges.promise(10, "It BECOMES what comes of two (how 0: or, 1: and, 2: less, 3: then, 4: the first one and back of the other one,"
            + " by or): how many pairs it has then");
        int[] pairs = {3, 1, 1, 1, 4};
        int[][] lastPairs = {{3, 3}, {1, 2}, {0, 1}, {0, 2}, {3, 3}};
        for (int how = 0; how < 5; how++) {
            PairTree tree = edges.good(THREE, 3);
            edges.due("how " + how, tree.become(0, how, 0, 1), pairs[how]);
            edges.due("pairs", tree.relation(0, 1), pairs[how]);
            edges.due("row of the last", tree.pair(0, pairs[how] - 1, 0), lastPairs[how][0]);
            edges.due("column of the last", tree.pair(0, pairs[how] - 1, 1), lastPairs[how][1]);
        }
        PairTree tree = edges.good(THREE, 3);
        edges.due("none", tree.become(0, 2, 0, 2), 0);
        edges.due("the other one alone, changed over", tree.become(0, 4, 0, 1), 2);
        edges.due("2 1", tree.has(0, 2, 1), 1);
        edges.promise(10, "(An ACT.)");
        edges.due("ACTS", tree.about(6), 2);
        edges.due("what changes nothing is one, too", tree.become(1, 0, 1, 1), 2);
        edges.due("ACTS", tree.about(6), 3);
        edges.promise(10, "NONE, doing nothing, if it is DERIVED, or one can't be");
        tree.undo();
        int[] ahead = Edges.about(tree);
        edges.due("DERIVED", tree.become(2, 0, 0, 1), -1);
        for (int rel : NO_RELATIONS) {
            edges.due("rel " + rel, tree.become(rel, 0, 0, 1), -1);
            edges.due("one " + rel, tree.become(0, 0, rel, 1), -1);
            edges.due("other " + rel, tree.become(0, 0, 1, rel), -1);
        }
        for (int how : new int[] {-1, 5, Integer.MIN_VALUE, Integer.MAX_VALUE}) {
            edges.due("how " + how, tree.become(0, how, 0, 1), -1);
        }
        edges.aboutDue("nothing is done", tree, ahead);
    }

    private void sift() {
        PairTree tree = edges.good(THREE + "keep row;", 3);
        edges.promise(11, "It is SIFTED: how many pairs are gone");
        edges.due("one", tree.sift(0), 1);
        edges.due("none", tree.sift(1), 0);
        edges.promise(11, "(An ACT.)");
        edges.due("both are", tree.about(6), 2);
        tree.undo();
        tree.undo();
        edges.due("taken back", tree.has(0, 0, 1), 1);
        edges.promise(11, "NONE, doing nothing, if it is DERIVED, or there is none such");
        int[] ahead = Edges.about(tree);
        edges.due("DERIVED", tree.sift(2), -1);
        for (int rel : NO_RELATIONS) {
            edges.due("rel " + rel, tree.sift(rel), -1);
        }
        edges.aboutDue("nothing is done", tree, ahead);
    }

    private void drift() {
        edges.promise(12, "the RELATION of which a pair was turned");
        PairTree tree = edges.good("levels 2;rel a has 0 1;rel b is a;rel c has;drift 99;", 3);
        edges.due("71: c", tree.drift(), 2);
        edges.due("798: a", tree.drift(), 0);
        edges.promise(12, "NONE: none");
        edges.due("397: b is DERIVED", tree.drift(), -1);
        edges.due("460: b is DERIVED", tree.drift(), -1);
        edges.due("91: b is DERIVED", tree.drift(), -1);
        edges.due("pairs", tree.about(4), 3);
        edges.promise(12, "(An ACT.)");
        edges.due("ACTS, though none is turned", tree.about(6), 5);
        edges.due("undo", tree.undo(), true);
        edges.due("the SEED is taken back", tree.about(5), 460);
        edges.due("redo", tree.redo(), true);
        edges.due("the SEED again", tree.about(5), 91);
        edges.due("undo four", tree.undo() && tree.undo() && tree.undo() && tree.undo(), true);
        edges.due("a is as told", tree.relation(0, 1), 1);
        edges.due("the SEED", tree.about(5), 71);
        edges.due("undo", tree.undo(), true);
        edges.due("draw", tree.about(5), 0);
        edges.due("the same again", tree.drift(), 2);
        tree = new PairTree();
        edges.due("without RELATIONS", tree.drift(), -1);
        edges.due("an ACT, too", tree.about(6), 1);
    }

    private void undoAndRedo() {
        edges.promise(13, "UNDO: true; false if there is none");
        PairTree tree = edges.good(THREE, 3);
        edges.due("none", tree.undo(), false);
        tree.put(0, 0, 0);
        edges.due("one", tree.undo(), true);
        edges.due("none", tree.undo(), false);
        edges.due("as told", tree.relation(0, 1), 2);
        edges.promise(14, "REDO: true; false if there is none");
        edges.due("one", tree.redo(), true);
        edges.due("none", tree.redo(), false);
        edges.due("0 0", tree.has(0, 0, 0), 1);
        edges.due("none without ACTS", edges.good(THREE, 3).redo(), false);
        tree.undo();
        tree.sift(1);
        edges.due("none behind another ACT", tree.redo(), false);
    }
}
