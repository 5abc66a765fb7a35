import java.util.BitSet;
import java.util.regex.Matcher;
import java.util.regex.Pattern;

/**
 * Tests told by sentences of the document: each sentence must stand in DOC.md, have an answer looked at behind it, and in
 * the end no boundary of DOC.md (a number, NONE, at most ..) may be left that no sentence told here has in it.
 */
final class Edges {
    private static final Pattern BOUNDARY = Pattern.compile("\\d|\\b(NONE|none|no|nothing|false|true|EMPTY|empty|most|least|once"
        + "|first|latest|last|too|always|each|all|alone|wrapping|same|other|another|new|oldest|modulo|already|can't)\\b");
    private static final String TERMS = "Terms";

    private final String document;
    private final BitSet told = new BitSet();
    private final Check check = new Check("EdgeTest");
    private String sentence = "";
    private boolean isLookedAt = true;

    Edges(String document) {
        this.document = document.replaceAll("\\s+", " ");
    }

    /** What follows looks at this sentence of a promise. */
    void promise(int number, String words) {
        tell("Promise " + number, words);
    }

    /** What follows looks at these words of the Terms. */
    void terms(String words) {
        tell(TERMS, words);
    }

    private void tell(String part, String words) {
        closeSentence();
        int from = partFrom(part);
        int at = document.indexOf(words, from);
        while (at >= 0 && told.get(at) && document.indexOf(words, at + 1) >= 0 && document.indexOf(words, at + 1) < partTo(from)) {
            at = document.indexOf(words, at + 1);
        }
        boolean stands = from >= 0 && at >= 0 && at + words.length() <= partTo(from);
        check.due(part + " says '" + words + "'", stands, true);
        if (stands) {
            told.set(at, at + words.length());
        }
        sentence = part + ", '" + words + "': ";
        isLookedAt = false;
    }

    private int partFrom(String part) {
        Matcher head = Pattern.compile("## " + part + "\\b").matcher(document);
        return head.find() ? head.end() : -1;
    }

    private int partTo(int from) {
        int end = document.indexOf(" ## ", from);
        return end < 0 ? document.length() : end;
    }

    private void closeSentence() {
        check.due(sentence + "an answer is looked at", isLookedAt, true);
    }

    void due(String what, long got, long want) {
        isLookedAt = true;
        check.due(sentence + what, got, want);
    }

    void due(String what, boolean got, boolean want) {
        due(what, got ? 1 : 0, want ? 1 : 0);
    }

    void faultDue(String text, int fault, int place) {
        isLookedAt = true;
        check.faultDue(text, fault, place);
    }

    PairTree good(String text, int relations) {
        isLookedAt = true;
        return check.good(text, relations);
    }

    void liesDue(String what, PairTree tree, int... numbers) {
        isLookedAt = true;
        check.liesDue(sentence + what, tree, numbers);
    }

    /** The answer of about(what) for each what from 0 on: what a call that does nothing must leave as it is. */
    void aboutDue(String what, PairTree tree, int... numbers) {
        for (int i = 0; i < numbers.length; i++) {
            due(what + " about(" + i + ")", tree.about(i), numbers[i]);
        }
    }

    static int[] about(PairTree tree) {
        int[] numbers = new int[14];
        for (int what = 0; what < numbers.length; what++) {
            numbers[what] = tree.about(what);
        }
        return numbers;
    }

    void close() {
        closeSentence();
        allTold(TERMS);
        for (int number = 1; number <= 50; number++) {
            allTold("Promise " + number);
        }
        check.close();
    }

    private void allTold(String part) {
        int from = partFrom(part);
        StringBuilder left = new StringBuilder();
        for (int at = from; at < partTo(from); at++) {
            left.append(told.get(at) ? '_' : document.charAt(at));
        }
        // what the head and the face repeat is no sentence
        String rest = left.toString().replaceFirst("^: [^`]*`[^`]*`", "").replaceAll("==== \\d\\.", "");
        check.due(part + " has all its boundaries told: " + rest, BOUNDARY.matcher(rest).find(), false);
    }
}
