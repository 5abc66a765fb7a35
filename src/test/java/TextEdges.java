/** The boundaries of the text of a STORE (Terms, ==== 1.) and of promises 1 to 5. */
final class TextEdges {
    private static final String[] OWN_WORDS = {"levels", "rel", "has", "is", "keep", "drift", "draw", "or", "less", "and", "then",
        "back", "same", "all", "not", "row", "column", "many"};
    private static final String SIGNS = ";()<>=+-*/%";
    private static final String FIVE = "rel a has;rel b has;rel c has;rel d has;rel e has;";

    private final Edges edges;

    TextEdges(Edges edges) {
        this.edges = edges;
    }

    void run() {
        wholeText();
        lines();
        derived();
        formulas();
        words();
        numbersAndSigns();
        levels();
        relations();
        limitsOfX();
        linesOnce();
        limitsOfE();
        faultPlaces();
        lineFaults();
        partFaults();
        otherFaults();
        newObject();
        feed();
        end();
        store();
        storeRefused();
        storeAgain();
        fault();
    }

    private static String spaces(int many) {
        return Check.many(" ", many);
    }

    private void wholeText() {
        edges.terms("at most 1,600 bytes");
        edges.due("the first of 1,600 bytes count", edges.good("draw 12;" + spaces(1592), 0).about(5), 12);
        edges.due("the last of 1,600 bytes count", edges.good(spaces(1592) + "draw 12;", 0).about(5), 12);
        edges.faultDue(spaces(1599) + "x", 2, 1599);
        edges.faultDue("draw 12" + spaces(1593), 2, 1600);
        edges.terms("(empty at first)");
        edges.due("no RELATIONS", new PairTree().about(0), 0);
        edges.terms("store = {line}");
        edges.good("", 0);
        edges.good(" \n", 0);
        edges.good("draw 1;drift 2;keep 3;levels 4;rel a has;rel b is a;", 2);
        edges.faultDue("draw 1;;", 2, 7);
    }

    private void lines() {
        edges.terms("line = levels N ;");
        edges.good("levels 2;", 0);
        edges.faultDue("levels 2", 2, 8);
        edges.faultDue("levels 2 2;", 2, 9);
        edges.faultDue("levels;", 2, 6);
        edges.terms("rel NAME has {N N} ;");
        edges.due("no pair", edges.good("rel a has;", 1).relation(0, 1), 0);
        edges.due("one pair", edges.good("rel a has 1 2;", 1).relation(0, 1), 1);
        edges.faultDue("rel a has 1;", 2, 11);
        edges.faultDue("rel a has 1 2 3;", 2, 15);
        edges.faultDue("rel a has 1 2", 2, 13);
        edges.faultDue("rel a has a;", 2, 10);
        edges.faultDue("rel has 1 2;", 2, 4);
        edges.faultDue("rel a 1 2;", 2, 6);
        edges.terms("rel NAME is x ;");
        edges.good("rel a is all;", 1);
        edges.faultDue("rel a is;", 2, 8);
        edges.faultDue("rel a is 1 2;", 2, 9);
        edges.faultDue("rel is all;", 2, 4);
        edges.faultDue("rel a has is all;", 2, 10);
        edges.terms("keep e ;");
        edges.good("keep 1;", 0);
        edges.faultDue("keep;", 2, 4);
        edges.faultDue("keep 1", 2, 6);
        edges.terms("drift N ;");
        edges.good("drift 1;", 0);
        edges.faultDue("drift;", 2, 5);
        edges.faultDue("drift 1 2;", 2, 8);
        edges.terms("draw N ;.");
        edges.good("draw 1;", 0);
        edges.faultDue("draw;", 2, 4);
        edges.faultDue("draw (1);", 2, 5);
        edges.faultDue("draw -1;", 2, 5);
    }

    private void derived() {
        edges.terms("x = y {(or | less) y}.");
        PairTree tree = edges.good("levels 1;rel a is all less same or same;rel b is all less (same or same);", 2);
        edges.due("from the left", tree.relation(0, 1), 4);
        edges.due("a ( x ) first", tree.relation(1, 1), 2);
        edges.faultDue("rel a is all or;", 2, 15);
        edges.faultDue("rel a is less all;", 2, 9);
        edges.faultDue("rel a is all or or all;", 2, 16);
        edges.terms("y = z {(and | then) z}.");
        tree = edges.good("levels 1;rel a has 0 1;rel b is same or a and a then a;rel c is a then all and same;", 3);
        edges.due("and, then go ahead of or", tree.relation(1, 1), 2);
        edges.due("from the left: 0 0", tree.has(2, 0, 0), 1);
        edges.due("from the left: 0 1", tree.has(2, 0, 1), 0);
        edges.faultDue("rel a is all then;", 2, 17);
        edges.faultDue("rel a is and all;", 2, 9);
        edges.terms("z = back z | NAME | same | all | ( x ).");
        tree = edges.good("levels 1;rel a has 0 1;rel b is back a or a;rel c is back(a or same);rel d is a;", 4);
        edges.due("back takes a z alone", tree.relation(1, 1), 2);
        edges.due("back of a ( x )", tree.relation(2, 1), 3);
        edges.due("a NAME", tree.unlike(0, 3), 0);
        edges.faultDue("rel a is back;", 2, 13);
        edges.faultDue("rel a is ();", 2, 10);
        edges.faultDue("rel a is (all;", 2, 13);
        edges.faultDue("rel a is all);", 2, 12);
        edges.faultDue("rel a is all same;", 2, 13);
        edges.faultDue("rel a is all back same;", 2, 13);
        edges.faultDue("rel a is not all;", 2, 9);
    }

    private void keeps(String formula, boolean isKept) {
        PairTree tree = edges.good("rel a has 2 3;keep " + formula + ";", 1);
        edges.due(formula + " keeps 2 3", tree.relation(0, 4), isKept ? 1 : 0);
    }

    private void formulas() {
        edges.terms("e = both {or both}.");
        keeps("0 or 0 or 1", true);
        keeps("1 or 0 and 0", true);
        edges.faultDue("keep 1 or;", 2, 9);
        edges.faultDue("keep or 1;", 2, 5);
        edges.terms("both = one {and one}.");
        keeps("1 and 1 and 0", false);
        keeps("not 0 and 0", false);
        edges.faultDue("keep 1 and;", 2, 10);
        edges.faultDue("keep 1 then 1;", 2, 7);
        edges.terms("one = not one | sum [(< | > | =) sum].");
        keeps("not not 0", false);
        keeps("not 1=2", true);
        edges.faultDue("keep not;", 2, 8);
        edges.faultDue("keep 1<2<3;", 2, 8);
        edges.faultDue("keep 1=not 1;", 2, 7);
        edges.faultDue("keep 1<;", 2, 7);
        edges.faultDue("keep 1<=2;", 2, 7);
        edges.terms("sum = term {(+ | -) term}.");
        keeps("5-3-2", false);
        keeps("1+2*0", true);
        edges.faultDue("keep 1+;", 2, 7);
        edges.faultDue("keep -1;", 2, 5);
        edges.terms("term = unit {(* | / | %) unit}.");
        keeps("8/4/2=1", true);
        keeps("9%5*2=8", true);
        edges.faultDue("keep 1*;", 2, 7);
        edges.faultDue("keep 2**2;", 2, 7);
        edges.terms("unit = N | row | column | many | ( e ).");
        keeps("9999=9999", true);
        keeps("row=2", true);
        keeps("column=3", true);
        keeps("many=1", true);
        keeps("(1 or 0)*(0 and 1)", false);
        edges.faultDue("keep ();", 2, 6);
        edges.faultDue("keep (1;", 2, 7);
        edges.faultDue("keep 1);", 2, 6);
        edges.faultDue("keep 1 2;", 2, 7);
        edges.faultDue("keep a;", 2, 5);
        edges.faultDue("keep same;", 2, 5);
    }

    private void words() {
        edges.terms("words (a .. z, 8 at most)");
        edges.good("rel a has;rel z has;rel abcdefgh has;rel stuvwxyz has;", 4);
        edges.faultDue("rel abcdefghi has;", 1, 4);
        edges.faultDue("rel a has;rel b is abcdefghi;", 1, 19);
        edges.faultDue("rel a has" + spaces(3) + "zzzzzzzzzzzzzzzzzzzzzzzzzz;", 1, 12);
        edges.faultDue("columnss 1;", 2, 0);
        edges.faultDue("columnsss 1;", 1, 0);
        edges.faultDue("rel A has;", 1, 4);
        edges.faultDue("rel aB has;", 1, 5);
        edges.terms("each is as long as can be");
        PairTree tree = edges.good("rel relhas has;rel sameall is relhas;rel orr is sameall or relhas;", 3);
        edges.due("a word is not parted", tree.relation(2, 0), 0);
        edges.faultDue("rel a is sameor same;", 5, 9);
        edges.faultDue("relahas;", 2, 0);
        edges.due("a number is not parted", edges.good("draw 123;", 0).about(5), 123);
        edges.faultDue("rel a has 12;", 4, 10);
        edges.terms("Words that stand for themselves here are no NAMES");
        for (String word : OWN_WORDS) {
            edges.faultDue("rel " + word + " has;", 2, 4);
        }
        for (String word : new String[] {"line", "x", "y", "z", "e", "both", "one", "sum", "term", "unit", "n", "level", "rels", "ha"}) {
            edges.good("rel " + word + " has;rel other is " + word + ";", 2);
        }
        edges.faultDue("rel a is row;", 2, 9);
        edges.faultDue("rel a is levels;", 2, 9);
    }

    private void numbersAndSigns() {
        edges.terms("N (1 to 4 digits)");
        edges.due("one digit", edges.good("draw 0;", 0).about(5), 0);
        edges.due("four digits", edges.good("draw 0999;", 0).about(5), 999);
        edges.good("keep 9999;", 0);
        edges.faultDue("draw 00000;", 1, 5);
        edges.faultDue("keep 10000;", 1, 5);
        edges.faultDue("draw 99999999999999999999999;", 1, 5);
        edges.terms("signs ; ( ) < > = + - * / %");
        edges.good("rel a is(all)less same;keep(1)<2 and 3>1 and 4=4 and 5+6-7*8/9%10;", 1);
        for (int sign = 0; sign < 256; sign++) {
            char one = (char) sign;
            boolean isToken = SIGNS.indexOf(one) >= 0 || one >= 'a' && one <= 'z' || one >= '0' && one <= '9';
            if (one != ' ' && one != '\n') {
                edges.faultDue(one + ";", isToken ? 2 : 1, 0);
            }
        }
        edges.terms("blanks (32, 10) part them or not");
        edges.good("\n levels\n4 \n;  rel\na\nhas\n1\n2\n;\n", 1);
        edges.good("levels4;rel a has1 2;rel b is(a)or(a);keep not(1);drift0;draw0;", 2);
        edges.faultDue("rel a has 1\t2;", 1, 11);
        edges.faultDue("rel a has 1\r\n2;", 1, 11);
        edges.faultDue("draw 1\0;", 1, 6);
        edges.terms("no letter directly behind an N");
        edges.faultDue("draw 1x;", 1, 5);
        edges.faultDue("rel a has 1 2or;", 1, 12);
        edges.faultDue("keep 1or 2;", 1, 5);
        edges.faultDue("draw 1 x;", 2, 7);
        edges.faultDue("rel a1 has;", 2, 5);
        edges.good("keep 1<2 or 3;", 0);
    }

    private void levels() {
        edges.terms("levels once, ahead of any rel (1 .. 4; 3 if not told)");
        edges.faultDue("levels 0;", 4, 7);
        edges.faultDue("levels 5;", 4, 7);
        edges.faultDue("levels 9999;", 4, 7);
        for (int levels = 1; levels <= 4; levels++) {
            edges.due("levels", edges.good("levels " + levels + ";", 0).about(1), levels);
        }
        edges.due("not told", edges.good("rel a has;", 1).about(1), 3);
        edges.due("behind what is no rel", edges.good("keep 1;drift 1;draw 1;levels 1;rel a has;", 1).about(1), 1);
        edges.faultDue("rel a has;levels 3;", 2, 10);
        edges.faultDue("levels 3;levels 3;", 2, 9);
    }

    private void relations() {
        edges.terms("at most 5 RELATIONS, numbered as told");
        PairTree tree = edges.good("rel a has 0 0;rel b has 0 1;rel c has 0 2;rel d has 0 3;rel e has 0 4;", 5);
        for (int rel = 0; rel < 5; rel++) {
            edges.due("RELATION " + rel, tree.pair(rel, 0, 1), rel);
        }
        edges.due("RELATION 5", tree.relation(5, 0), -1);
        edges.faultDue(FIVE + "rel f has;", 2, FIVE.length());
        edges.terms("of 40 pairs told at most each");
        edges.due("40 and 40", edges.good("rel a has" + Check.many(" 1 2", 40) + ";rel b has" + Check.many(" 3 4", 40) + ";", 2).about(4), 2);
        edges.faultDue("rel a has" + Check.many(" 1 2", 41) + ";", 2, 170);
        edges.terms("(a row, a column below SIZE; the same pair may be told again)");
        for (int levels = 1; levels <= 4; levels++) {
            int size = 1 << levels;
            String head = "levels " + levels + ";rel a has ";
            tree = edges.good(head + (size - 1) + " " + (size - 1) + " 0 0 0 0;", 1);
            edges.due("the last pair", tree.has(0, size - 1, size - 1), 1);
            edges.due("told again it counts once", tree.relation(0, 1), 2);
            edges.faultDue(head + size + " 0;", 4, head.length());
            edges.faultDue(head + "0 " + size + ";", 4, head.length() + 2);
        }
    }

    private void limitsOfX() {
        edges.terms("30 z in all that are a NAME, same or all");
        String leaves = "rel a has;rel b is a or same or all" + Check.many(" or a", 17) + ";";
        edges.good(leaves + "rel c is back(b)" + Check.many(" or(back all)", 9) + ";", 3);
        String full = leaves + "rel c is b" + Check.many(" and b", 9);
        edges.good(full + ";", 3);
        edges.faultDue(full + " and b;", 2, full.length() + 5);
        edges.faultDue(full + " and same;", 2, full.length() + 5);
        edges.faultDue(full + " and all;", 2, full.length() + 5);
        edges.faultDue(full + ";rel d is c;", 2, full.length() + 10);
        edges.terms("a z within 5 others at most (a ( x ), a back z)");
        edges.good("rel a is (((((same)))));", 1);
        edges.good("rel a is back back back back back same;", 1);
        edges.good("rel a is back(back(back all));", 1);
        edges.good("rel a is (((((same or all))))) and (((((same)))));", 1);
        edges.faultDue("rel a is ((((((same))))));", 2, 15);
        edges.faultDue("rel a is back back back back back back same;", 2, 39);
        edges.faultDue("rel a is (back(back(back back same)));", 2, 25);
        PairTree deep = edges.good("rel a is all;rel b is all;rel c is all;rel d is all;rel e is " + Check.many("same or all and (", 5)
            + "same or all and all" + Check.many(")", 5) + ";", 5);
        edges.due("as much stands open as can be", deep.relation(4, 1), 64);
        deep = edges.good("rel a is all;rel b is all;rel c is all;rel d is all;rel e is " + Check.many("all less all and (", 5)
            + "all less all and same" + Check.many(")", 5) + ";", 5);
        edges.due("each ( x ) counts", deep.relation(4, 1), 8);
        edges.terms("a NAME in x is one of a RELATION told ahead");
        edges.good("rel a has;rel b is a;rel c is b and a;", 3);
        edges.faultDue("rel a is a;", 5, 9);
        edges.faultDue("rel a is b;rel b has;", 5, 9);
    }

    private void linesOnce() {
        edges.terms("keep, drift (0 .. 100 of 100; 0), draw (0 .. 999; 0) once each");
        edges.due("drift 0", edges.good("drift 0;", 0).about(13), 0);
        edges.due("drift 100", edges.good("drift 100;", 0).about(13), 100);
        edges.due("drift not told", edges.good("draw 5;", 0).about(13), 0);
        edges.faultDue("drift 101;", 4, 6);
        edges.due("draw 0", edges.good("draw 0;", 0).about(5), 0);
        edges.due("draw 999", edges.good("draw 999;", 0).about(5), 999);
        edges.due("draw not told", edges.good("drift 5;", 0).about(5), 0);
        edges.faultDue("draw 1000;", 4, 5);
        edges.faultDue("keep 1;drift 1;draw 1;keep 1;", 2, 22);
        edges.faultDue("keep 1;drift 1;draw 1;drift 1;", 2, 22);
        edges.faultDue("keep 1;drift 1;draw 1;draw 1;", 2, 22);
    }

    private void limitsOfE() {
        edges.terms("60 units in all, 30 in e");
        String thirty = "keep row" + Check.many("+1", 29);
        edges.due("30 units", edges.good(thirty + ";", 0).about(11), 30);
        edges.faultDue(thirty + "+1;", 2, thirty.length() + 1);
        edges.faultDue(thirty + " or many;", 2, thirty.length() + 4);
        String bracket = "keep (1)" + Check.many("+1", 27);
        edges.due("a ( e ) is a unit", edges.good(bracket + "+1;", 0).about(11), 30);
        edges.faultDue(bracket + "+(1);", 2, bracket.length() + 2);
        edges.terms("(a unit ( e ), or a one behind not, within 6 others at most)");
        edges.good("keep (((((((1)))))));", 0);
        edges.good("keep not not not not not not not 1;", 0);
        edges.good("keep not(not(not(not row)));", 0);
        edges.good("keep (((((((1)))))))=(((((((1))))))) and 1;", 0);
        edges.good("keep (not(not(not(1)))) and not 1;", 0);
        edges.faultDue("keep ((((((((1))))))));", 2, 12);
        edges.faultDue("keep not not not not not not not not 1;", 2, 33);
        edges.faultDue("keep not(not(not(not(1))));", 2, 20);
        edges.faultDue("keep (not(not(not(not 1))));", 2, 18);
    }

    private void faultPlaces() {
        edges.terms("FAULTS, the first by its place");
        edges.faultDue("draw 1000;rel a is q;?", 4, 5);
        edges.faultDue("rel a is q;draw 1000;?", 5, 9);
        edges.faultDue("?draw 1000;", 1, 0);
        edges.faultDue("rel a has;rel a has 99 99 ?", 3, 14);
        edges.faultDue("levels 2;levels ?", 2, 9);
        edges.terms("(bytes from 0; the end: the text's length)");
        edges.faultDue(";", 2, 0);
        edges.faultDue("r", 2, 0);
        edges.faultDue("rel", 2, 3);
        edges.faultDue("rel \n", 2, 5);
        edges.faultDue("keep (((", 2, 8);
        edges.terms("at one place the least");
        edges.faultDue(FIVE + "?", 1, FIVE.length());
        edges.faultDue("rel a has" + Check.many(" 1 2", 40) + " 8 0;", 2, 170);
        edges.faultDue("rel a has" + Check.many(" 1 2", 40) + " 8x 0;", 1, 170);
        edges.faultDue("rel a is same" + Check.many(" or all", 29) + " or q;", 2, 220);
        edges.faultDue("rel a is same" + Check.many(" or all", 29) + " or qqqqqqqqq;", 1, 220);
        edges.faultDue("rel a is ((((((q))))));", 2, 15);
    }

    private void lineFaults() {
        edges.terms("1 no TOKEN");
        edges.faultDue("rel a has;!", 1, 10);
        edges.faultDue("rel a ?", 1, 6);
        edges.faultDue("rel a is all;\u00e4", 1, 13);
        edges.faultDue("keep 1;_", 1, 7);
        edges.terms("2 one that can't stand there (a RELATION too many, levels too late, levels, keep, drift, draw a second time:"
            + " at the line's first word;");
        edges.faultDue(FIVE + "\n rel a is", 2, FIVE.length() + 2);
        edges.faultDue("rel a has; levels 9;", 2, 11);
        edges.faultDue("levels 1; levels 9;", 2, 10);
        edges.faultDue("keep 1; keep q;", 2, 8);
        edges.faultDue("drift 1; drift 101;", 2, 9);
        edges.faultDue("draw 1; draw 1000;", 2, 8);
        edges.faultDue("has;", 2, 0);
        edges.faultDue("17;", 2, 0);
    }

    private void partFaults() {
        edges.terms("a pair too many: at its row");
        edges.faultDue("rel a has" + Check.many(" 7 7", 40) + "  3 3;", 2, 171);
        edges.faultDue("rel a has" + Check.many(" 7 7", 40) + " 3", 2, 170);
        edges.faultDue("rel a has" + Check.many(" 7 7", 40) + " a;", 2, 170);
        edges.terms("a z too many, within 6 others: at its first TOKEN");
        String thirty = "rel a is all" + Check.many(" or all", 29);
        edges.faultDue(thirty + " or all;", 2, thirty.length() + 4);
        edges.faultDue(thirty + " or back all;", 2, thirty.length() + 9);
        edges.faultDue(thirty + " or (same);", 2, thirty.length() + 5);
        edges.faultDue("rel a is ((((((back all))))));", 2, 15);
        edges.faultDue("rel a is ((((((((all))))))));", 2, 15);
        edges.faultDue("rel a is (((((all and(same))))));", 2, 22);
        edges.terms("a unit too many, what is within 7 others: at its first TOKEN, or the not");
        String units = "keep 1" + Check.many("-1", 29);
        edges.faultDue(units + "-column;", 2, units.length() + 1);
        edges.faultDue(units + "-(column);", 2, units.length() + 1);
        edges.faultDue(units + " and not not 1;", 2, units.length() + 13);
        edges.faultDue("keep (((((((1+(2))))))));", 2, 14);
        edges.faultDue("keep (((((((1+2 or not 1))))))));", 2, 19);
        edges.faultDue("keep not not not not not not not(1);", 2, 32);
    }

    private void otherFaults() {
        edges.terms("3 a NAME told already");
        edges.faultDue("rel a has;rel a has;", 3, 14);
        edges.faultDue("rel ab is all;rel a has;rel ab is a;", 3, 28);
        edges.good("rel ab has;rel a has;rel b has;rel ba has;", 4);
        edges.terms("4 a number that can't be");
        edges.faultDue("levels 0;", 4, 7);
        edges.faultDue("drift 9999;", 4, 6);
        edges.faultDue("draw 9999;", 4, 5);
        edges.faultDue("rel a has 0 0 0 8;", 4, 16);
        edges.faultDue("levels 4;rel a has 16 0;", 4, 19);
        edges.terms("5 a NAME in x that no RELATION told ahead has");
        edges.faultDue("rel a has;rel b is a or b;", 5, 24);
        edges.faultDue("rel a has;rel b is back(a then c);", 5, 31);
        edges.faultDue("rel a has;rel b is aa;", 5, 19);
    }

    private void newObject() {
        edges.promise(1, "An empty STORE (3 levels)");
        PairTree tree = new PairTree();
        edges.aboutDue("new", tree, 0, 3, 8, 0, 0, 0, 0, 0, 0, 0, 0, 0, 0, 0);
        edges.due("no RELATION 0", tree.relation(0, 0), -1);
        edges.due("nothing lies there", tree.lies(0), -2);
        edges.due("BOXES are empty", tree.back(0), -1);
        edges.due("no undo", tree.undo(), false);
        edges.due("no redo", tree.redo(), false);
        edges.due("no untell", tree.untell(0), false);
        edges.due("no FITS", tree.fits(0), 0);
    }

    private void feed() {
        edges.promise(2, "Twenty bytes come behind those on the TAPE, of each number the highest first: how many there are");
        PairTree tree = new PairTree();
        edges.due("twenty", tree.feed(0x64726177, 0x20373b20, 0x20202020, 0x20202020, 0x20202020), 20);
        edges.due("twenty more", tree.feed(0x0a0a0a0a, 0x0a0a0a0a, 0x0a0a0a0a, 0x0a0a0a0a, 0x0a0a0aff), 40);
        tree.store();
        edges.due("the last byte is the lowest of e: place", tree.fault(1), 39);
        edges.due("it is no TOKEN", tree.fault(0), 1);
        tree.feed(0x64726177, 0x20373b20, 0x20202020, 0x20202020, 0x20202020);
        tree.feed(0x64726966, 0x7420393b, 0x20202020, 0x20202020, 0x2020203b);
        tree.end(39);
        edges.due("both are stored", tree.store(), 0);
        edges.due("draw 7", tree.about(5), 7);
        edges.due("drift 9", tree.about(13), 9);
        edges.promise(2, "NONE, and nothing comes, if there would be more than 1,600");
        for (int times = 0; times < 80; times++) {
            edges.due("so far", tree.feed(0x20202020, 0x20202020, 0x20202020, 0x20202020, 0x20202020), 20 * times + 20);
        }
        edges.due("1,620", tree.feed(0, 0, 0, 0, 0), -1);
        edges.due("nothing came", tree.about(10), 1600);
        edges.due("cut", tree.end(1581), 1581);
        edges.due("1,601", tree.feed(0, 0, 0, 0, 0), -1);
        edges.due("nothing came", tree.about(10), 1581);
        edges.due("cut", tree.end(1580), 1580);
        edges.due("1,600 just", tree.feed(0x20202020, 0x20202020, 0x20202020, 0x20202020, 0x20202020), 1600);
        edges.due("all are blanks still", tree.store(), 0);
    }

    private void end() {
        edges.promise(3, "The TAPE has its first n bytes: n");
        PairTree tree = new PairTree();
        Check.feedText(tree, "draw 71;drift 5;9999");
        edges.due("all", tree.end(20), 20);
        edges.due("some", tree.end(8), 8);
        edges.due("none of what was behind comes back", tree.store(), 0);
        edges.due("draw 71", tree.about(5), 71);
        edges.due("no drift", tree.about(13), 0);
        edges.due("0 of an empty TAPE", tree.end(0), 0);
        String[] cut = {"draw 12;", "draw 1x;", "rel abc;", "draw 1;;"};
        int[] lengths = {6, 6, 5, 6};
        for (int i = 0; i < cut.length; i++) {
            Check.feedText(tree, cut[i]);
            tree.end(lengths[i]);
            edges.due("cut: " + cut[i], tree.store(), -1);
            edges.due("what is behind is not looked at: " + cut[i], tree.fault(0), 2);
            edges.due("it ends there: " + cut[i], tree.fault(1), lengths[i]);
        }
        edges.promise(3, "NONE, doing nothing, if it has not so many, or n is below 0");
        edges.due("1 of an empty TAPE", tree.end(1), -1);
        tree.feed(1, 2, 3, 4, 5);
        edges.due("21 of 20", tree.end(21), -1);
        edges.due("-1 of 20", tree.end(-1), -1);
        edges.due("least", tree.end(Integer.MIN_VALUE), -1);
        edges.due("most", tree.end(Integer.MAX_VALUE), -1);
        edges.due("nothing is done", tree.about(10), 20);
        tree.end(7);
        edges.due("8 of 7, though 20 were there", tree.end(8), -1);
        edges.due("nothing is done", tree.about(10), 7);
    }

    private PairTree used() {
        PairTree tree = edges.good("levels 2;rel a has 0 1 1 2;rel b is a;rel c has 3 3;keep row;drift 40;draw 5;", 3);
        tree.put(0, 3, 3);
        tree.put(0, 2, 3);
        tree.drift();
        tree.undo();
        tree.image(0);
        tree.row(0, 0);
        tree.seen(0, 0, 2, true);
        tree.later(9);
        return tree;
    }

    private void store() {
        edges.promise(4, "The TAPE (empty then, also at a FAULT) is the STORE");
        PairTree tree = used();
        Check.feedText(tree, "rel z has;?");
        tree.store();
        edges.due("empty at a FAULT", tree.about(10), 0);
        Check.feedText(tree, "levels 1;rel z has 1 1 0 0;draw 8;");
        edges.due("bytes", tree.about(10), 34);
        edges.promise(4, "how many RELATIONS");
        edges.due("store", tree.store(), 1);
        edges.due("empty then", tree.about(10), 0);
        edges.promise(4, "(pairs as told, no ACTS are kept, nothing is SEEN, nothing lies there, BOXES are empty then; the TIME stays)");
        edges.due("pairs as told", tree.relation(0, 1), 2);
        edges.due("0 0", tree.has(0, 0, 0), 1);
        edges.due("0 1", tree.has(0, 0, 1), 0);
        edges.aboutDue("all else is new", tree, 1, 1, 2, 1, 2, 8, 0, 0, 0, 9, 0, 0, 0, 0);
        edges.due("no undo", tree.undo(), false);
        edges.due("no redo", tree.redo(), false);
        edges.due("nothing SEEN counts", tree.fits(9), 5);
        edges.due("nothing to untell", tree.untell(0), false);
        edges.due("nothing lies there", tree.lies(0), -2);
        edges.due("BOX 0 is empty", tree.back(0), -1);
        edges.due("store again: the same pairs", Check.storeText(tree, "levels 1;rel z has 1 1 0 0;draw 8;"), 1);
        tree.take(0, 1, 1);
        Check.storeText(tree, "levels 1;rel z has 1 1 0 0;draw 8;");
        edges.due("ACTS are gone", tree.has(0, 1, 1), 1);
        edges.due("an empty TAPE", tree.store(), 0);
        edges.aboutDue("as new, but for the TIME", tree, 0, 3, 8, 0, 0, 0, 0, 0, 0, 9, 0, 0, 0, 0);
    }

    private void storeRefused() {
        edges.promise(4, "NONE: a FAULT (all else stays)");
        PairTree tree = used();
        int[] ahead = Edges.about(tree);
        for (String text : new String[] {"?", "levels 4;rel q has 9 9;drift 3;draw 4;keep 1+2+3;rel q", "rel", "draw 1000;"}) {
            edges.due("a FAULT", Check.storeText(tree, text), -1);
            edges.aboutDue("stays", tree, ahead);
        }
        edges.due("pairs stay", tree.relation(0, 1), 4);
        edges.due("a DERIVED one stays", tree.has(1, 2, 3), 1);
        edges.due("keep stays", tree.relation(0, 4), 3);
        edges.due("what lies there stays", tree.lies(0), 1);
        edges.due("what is SEEN stays", tree.fits(9), 1);
        edges.due("redo stays", tree.redo(), true);
        edges.due("undo stays", tree.undo() && tree.undo() && tree.undo(), true);
        edges.due("pairs as told", tree.relation(0, 1), 2);
        edges.due("the BOX stays", tree.back(0), 5);
    }

    /** Nothing of an earlier text, be it good or at FAULT, may come into a later one. */
    private void storeAgain() {
        String[] texts = {"levels 4;rel a has 9 9;rel b is a or same" + Check.many(" or a", 20) + ";rel c is all less b;keep row=9"
            + Check.many(" and 1", 20) + ";drift 30;draw 8;", "levels 1;rel a has;rel b is all;keep 0+0;rel q is b" + Check.many(" or b", 27) + " ?",
            "rel z has 1 1;rel b is z or same;", "rel c has 1 1 2 2;keep row-2;"};
        int[] relations = {3, -1, 2, 1};
        edges.promise(4, "is the STORE");
        PairTree tree = new PairTree();
        for (int times = 0; times < 5; times++) {
            for (int i = 0; i < texts.length; i++) {
                edges.due("store of " + texts[i], Check.storeText(tree, texts[i]), relations[i]);
                edges.due("units", tree.about(11), new int[] {22, 22, 0, 2}[i]);
                edges.due("pairs", tree.relation(relations[i] == 1 ? 0 : 1, 1), new int[] {16, 16, 8, 2}[i]);
                edges.due("would stay", tree.relation(0, 4), 1);
                edges.due("levels", tree.about(1), i < 2 ? 4 : 3);
                edges.due("drift", tree.about(13), i < 2 ? 30 : 0);
                edges.due("SEED", tree.about(5), i < 2 ? 8 : 0);
                edges.due("FITS", tree.fits(0), i < 2 ? 257 : 65);
            }
        }
        Check.storeText(tree, "rel a has 1 1;rel b is a;rel c is all;rel d is b or c;rel e is d;keep not 0;");
        for (int times = 0; times < 2; times++) {
            Check.storeText(tree, "rel a has 1 1;rel b has 2 2 3 3;rel c has 3 3;rel d has;rel e has 1 1;keep 1;");
            int[] pairs = {1, 2, 1, 0, 1};
            for (int rel = 0; rel < 5; rel++) {
                edges.due("TOLD ones behind DERIVED ones", tree.relation(rel, 1), pairs[rel]);
                edges.due("keep 1 behind keep not 0", tree.relation(rel, 4), pairs[rel]);
            }
        }
    }

    private void fault() {
        edges.promise(5, "Of the latest store() what 0: its FAULT (0), 1: its place (NONE)");
        PairTree tree = new PairTree();
        edges.due("no store() yet", tree.fault(0), 0);
        edges.due("no place yet", tree.fault(1), -1);
        Check.storeText(tree, "rel a is q;");
        edges.due("a FAULT", tree.fault(0), 5);
        edges.due("its place", tree.fault(1), 9);
        Check.feedText(tree, "draw 1000;");
        edges.due("till the next store()", tree.fault(0), 5);
        tree.store();
        edges.due("the latest FAULT", tree.fault(0), 4);
        edges.due("the latest place", tree.fault(1), 5);
        tree.store();
        edges.due("a good one", tree.fault(0), 0);
        edges.due("has no place", tree.fault(1), -1);
        edges.promise(5, "NONE for another what");
        Check.storeText(tree, "?");
        edges.due("what 2", tree.fault(2), -1);
        edges.due("what -1", tree.fault(-1), -1);
        edges.due("a FAULT at place 0", tree.fault(1), 0);
    }
}
