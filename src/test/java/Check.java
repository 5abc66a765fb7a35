/** What the tests share: texts for the TAPE, and a count of answers that are not as due. */
final class Check {
    private final String test;
    private int asked;
    private int wrong;

    Check(String test) {
        this.test = test;
    }

    void due(String what, long got, long want) {
        asked++;
        if (got != want) {
            wrong++;
            System.out.println(test + ": " + what + " answered " + got + ", due is " + want);
        }
    }

    void due(String what, boolean got, boolean want) {
        due(what, got ? 1 : 0, want ? 1 : 0);
    }

    /** The text is stored and must be refused with this FAULT at this place. */
    void faultDue(String text, int fault, int place) {
        PairTree tree = new PairTree();
        String what = "'" + text + "'";
        due(what + " store", storeText(tree, text), PairTree.NONE);
        due(what + " fault", tree.fault(0), fault);
        due(what + " place", tree.fault(1), place);
    }

    /** The text is stored and must be taken, with so many RELATIONS. */
    PairTree good(String text, int relations) {
        PairTree tree = new PairTree();
        due("'" + text + "' store", storeText(tree, text), relations);
        due("'" + text + "' fault", tree.fault(0), 0);
        due("'" + text + "' place", tree.fault(1), PairTree.NONE);
        return tree;
    }

    /** Behind each answer all numbers that lie there. */
    void liesDue(String what, PairTree tree, int... numbers) {
        for (int i = 0; i < numbers.length; i++) {
            due(what + " lies(" + i + ")", tree.lies(i), numbers[i]);
        }
        due(what + " lies(" + numbers.length + ")", tree.lies(numbers.length), -2);
        due(what + " about(12)", tree.about(12), numbers.length);
    }

    void close() {
        System.out.println(test + ": " + asked + " answers, " + wrong + " not as due");
        if (wrong != 0) {
            System.exit(1);
        }
    }

    static void feedText(PairTree tree, String text) {
        for (int at = 0; at < text.length(); at += 20) {
            tree.feed(number(text, at), number(text, at + 4), number(text, at + 8), number(text, at + 12), number(text, at + 16));
        }
        tree.end(text.length());
    }

    static int storeText(PairTree tree, String text) {
        tree.end(0);
        feedText(tree, text);
        return tree.store();
    }

    static int number(String text, int at) {
        int number = 0;
        for (int i = at; i < at + 4; i++) {
            number = number << 8 | (i < text.length() ? text.charAt(i) & 255 : 0);
        }
        return number;
    }

    static String many(String text, int times) {
        StringBuilder all = new StringBuilder();
        for (int i = 0; i < times; i++) {
            all.append(text);
        }
        return all.toString();
    }
}
