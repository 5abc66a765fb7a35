import java.util.Random;

/** Random runs on the program and on the Model of the document: each answer must be the same. */
public final class ModelTest {
    private static final Check CHECK = new Check("ModelTest");
    private static final String[] NAMES = {"a", "b", "cc", "storey", "unit", "eeeeeeee"};

    public static void main(String[] args) {
        for (int seed = 0; seed < 120; seed++) {
            new ModelTest(seed).run();
        }
        CHECK.close();
    }

    private final int seed;
    private final Random random;
    private final PairTree tree = new PairTree();
    private final Model model = new Model();
    private int calls;
    private int known;

    private ModelTest(int seed) {
        this.seed = seed;
        random = new Random(seed);
    }

    private void run() {
        tell(text());
        for (calls = 0; calls < 400; calls++) {
            step();
        }
    }

    private void due(String call, long got, long want) {
        CHECK.due("seed " + seed + ", call " + calls + ": " + call, got, want);
    }

    private int below(int n) {
        return random.nextInt(n);
    }

    // ---- texts

    private void tell(String text) {
        for (int at = 0; at < text.length() && at < 1600; at += 20) {
            int[] n = new int[5];
            for (int i = 0; i < 5; i++) {
                n[i] = Check.number(text, at + 4 * i);
            }
            due("feed", tree.feed(n[0], n[1], n[2], n[3], n[4]), model.feed(n));
        }
        due("end", tree.end(text.length()), model.end(text.length()));
        due("store of '" + text + "'", tree.store(), model.store());
        due("fault(0) of '" + text + "'", tree.fault(0), model.fault(0));
        due("fault(1) of '" + text + "'", tree.fault(1), model.fault(1));
        due("about(11)", tree.about(11), model.about(11));
    }

    private String text() {
        StringBuilder text = new StringBuilder();
        int levels = 1 + below(4);
        if (below(6) == 0) {
            levels = 3;
        } else {
            text.append("levels ").append(levels).append(';');
        }
        if (below(2) == 0) {
            text.append("drift ").append(below(4) == 0 ? 100 : below(101)).append(";\n");
        }
        int relations = below(12) == 0 ? 0 : 1 + below(5);
        for (known = 0; known < relations; known++) {
            text.append("rel ").append(NAMES[known]);
            if (below(3) > 0) {
                text.append(" has");
                for (int pairs = below(below(2) == 0 ? 41 : 8); pairs > 0; pairs--) {
                    text.append(' ').append(below(1 << levels)).append(' ').append(below(1 << levels));
                }
            } else {
                text.append(" is ").append(union(2));
            }
            text.append(';');
        }
        if (below(3) > 0) {
            text.append("keep ").append(formula(3)).append(';');
        }
        if (below(2) == 0) {
            text.append("draw ").append(below(1000)).append(';');
        }
        return text.toString();
    }

    private String union(int deep) {
        String[] signs = {" or ", " less ", " and ", " then "};
        StringBuilder text = new StringBuilder(single(deep));
        for (int more = below(3); more > 0; more--) {
            text.append(signs[below(4)]).append(single(deep));
        }
        return text.toString();
    }

    private String single(int deep) {
        int which = below(deep > 0 ? 8 : 5);
        switch (which) {
            case 0:
                return "same";
            case 1:
                return below(2) == 0 ? "all" : "same";
            case 5:
            case 6:
                return "(" + union(deep - 1) + ")";
            case 7:
                return "back " + single(deep - 1);
            default:
                return known == 0 ? "all" : NAMES[below(known)];
        }
    }

    private String formula(int deep) {
        String[] signs = {"+", "-", "*", "/", "%", "<", ">", "=", " and ", " or "};
        StringBuilder text = new StringBuilder(below(5) == 0 ? "not " : "");
        text.append(unit(deep));
        boolean compared = false;
        for (int more = below(4); more > 0; more--) {
            String sign = signs[below(10)];
            boolean compares = "<>=".contains(sign);
            if (!compares || !compared) {
                compared = compares || compared && !sign.startsWith(" ");
                text.append(sign).append(unit(deep));
            }
        }
        return text.toString();
    }

    private String unit(int deep) {
        switch (below(deep > 0 ? 6 : 5)) {
            case 0:
                return "row";
            case 1:
                return "column";
            case 2:
                return "many";
            case 5:
                return "(" + formula(deep - 1) + ")";
            default:
                return Integer.toString(below(6) == 0 ? below(10000) : below(10));
        }
    }

    /** A text that is spoilt here and there, so that each kind of FAULT comes up. */
    private String spoilt() {
        String[] bits = {";", "(", ")", " ", "9", "12345", "x", "rel", "has", "is", "or", "less", "back", "same ", "not ",
            "levels 2;", "keep 1;", "?", "\t", "q", "<", "=", "0 0 ", "((((", "back back ", "abcdefghi", " draw 1000;", "\u00ff"};
        StringBuilder text = new StringBuilder(text());
        for (int times = 1 + below(2); times > 0; times--) {
            int at = below(text.length() + 1);
            if (below(3) == 0) {
                text.delete(at, Math.min(text.length(), at + 1 + below(3)));
            } else {
                text.insert(at, bits[below(bits.length)]);
            }
        }
        return text.length() > 1580 ? text.substring(0, 1580) : text.toString();
    }

    // ---- calls

    private int rel() {
        return below(20) == 0 ? below(8) - 2 : below(Math.max(1, model.about(0)));
    }

    private int node() {
        return below(30) == 0 ? below(20) - 2 : below(model.about(2));
    }

    private int level() {
        return below(20) == 0 ? below(8) - 2 : below(model.about(1) + 1);
    }

    private int what(int most) {
        return below(most + 2) - (below(15) == 0 ? 1 : 0);
    }

    private void step() {
        switch (below(10)) {
            case 0:
            case 1:
                act();
                break;
            case 2:
                rarely();
                break;
            case 3:
                seen();
                break;
            case 4:
            case 5:
                bits();
                break;
            case 6:
            case 7:
                report();
                break;
            default:
                steps();
        }
        int what = what(13);
        due("about(" + what + ")", tree.about(what), model.about(what));
    }

    private void act() {
        int rel = rel();
        int a = node();
        int b = node();
        int how = what(4);
        int one = rel();
        int other = rel();
        switch (below(9)) {
            case 0:
                due("become(" + rel + ", " + how + ", " + one + ", " + other + ")", tree.become(rel, how, one, other),
                    model.become(rel, how, one, other));
                break;
            case 1:
                due("sift(" + rel + ")", tree.sift(rel), model.sift(rel));
                break;
            case 2:
            case 3:
                due("drift", tree.drift(), model.drift());
                break;
            case 4:
                due("take", tree.take(rel, a, b), model.take(rel, a, b));
                break;
            case 5:
                due("undo", tree.undo() ? 1 : 0, model.undo() ? 1 : 0);
                break;
            case 6:
                due("redo", tree.redo() ? 1 : 0, model.redo() ? 1 : 0);
                break;
            default:
                due("put", tree.put(rel, a, b), model.put(rel, a, b));
        }
    }

    private void rarely() {
        int box = what(2);
        int part = what(1);
        int goes = what(4);
        switch (below(30)) {
            case 0:
                tell(text());
                break;
            case 1:
            case 2:
            case 3:
            case 4:
            case 5:
                tell(spoilt());
                break;
            case 6:
            case 7:
                due("back(" + box + ")", tree.back(box), model.back(box));
                break;
            case 8:
            case 9:
            case 10:
                due("image(" + box + ")", tree.image(box), model.image(box));
                break;
            case 11:
                due("feed", tree.feed(goes, part, box, -1, 0), model.feed(goes, part, box, -1, 0));
                due("end", tree.end(0), model.end(0));
                break;
            case 12:
            case 13:
                for (int times = below(50); times > 0; times--) {
                    due("undo", tree.undo() ? 1 : 0, model.undo() ? 1 : 0);
                }
                break;
            default:
                due("odds(" + goes + ", " + part + ")", tree.odds(goes, part), model.odds(goes, part));
        }
    }

    private void seen() {
        int level = level();
        int block = below(30) == 0 ? below(300) - 5 : below(1 << 2 * Math.min(4, Math.max(0, level)));
        int many = below(4) == 0 ? below(280) - 5 : below(6);
        boolean is = below(4) == 0;
        int k = model.about(9) - below(3) * below(60) + below(3);
        int which = below(35) - 2;
        int what = what(1);
        switch (below(7)) {
            case 0:
                due("seen", tree.seen(level, block, many, is), model.seen(level, block, many, is));
                break;
            case 1:
                due("untell", tree.untell(which) ? 1 : 0, model.untell(which) ? 1 : 0);
                break;
            case 2:
                int by = below(8) == 0 ? below(1200) - 100 : below(20);
                due("later(" + by + ")", tree.later(by), model.later(by));
                break;
            case 3:
                due("fits(" + k + ")", tree.fits(k), model.fits(k));
                break;
            case 4:
                int i = below(Math.max(1, model.fits(k) + 2)) - 1;
                due("fit(" + i + ", " + k + ")", tree.fit(i, k), model.fit(i, k));
                break;
            default:
                if (below(8) == 0) {
                    due("ask(" + level + ", " + what + ", " + k + ")", tree.ask(level, what, k), model.ask(level, what, k));
                }
        }
    }

    private void bits() {
        int rel = rel();
        int bit = below(Math.max(1, model.relation(rel, 2)) + 2) - 1;
        int q = what(3);
        int level = level();
        int n = what(7);
        due("relation(" + rel + ", " + q + ")", tree.relation(rel, q), model.relation(rel, q));
        due("relation(" + rel + ", 4)", tree.relation(rel, 4), model.relation(rel, 4));
        due("bit(" + rel + ", " + bit + ")", tree.bit(rel, bit), model.bit(rel, bit));
        due("rank(" + rel + ", " + bit + ")", tree.rank(rel, bit), model.rank(rel, bit));
        due("child(" + rel + ", " + bit + ", " + q + ")", tree.child(rel, bit, q), model.child(rel, bit, q));
        due("place(" + rel + ", " + bit + ", " + q + ")", tree.place(rel, bit, q), model.place(rel, bit, q));
        due("blocks(" + rel + ", " + level + ")", tree.blocks(rel, level), model.blocks(rel, level));
        due("law(" + rel + ", " + n + ")", tree.law(rel, n), model.law(rel, n));
        due("densest(" + rel + ", " + level + ", " + q + ")", tree.densest(rel, level, q), model.densest(rel, level, q));
    }

    private void report() {
        int rel = rel();
        int other = rel();
        int from = node();
        int to = below(6) == 0 ? node() : Math.max(from, node());
        int left = node();
        int right = below(6) == 0 ? node() : Math.max(left, node());
        String rect = "(" + rel + ", " + from + ", " + to + ", " + left + ", " + right + ")";
        due("rect" + rect, tree.rect(rel, from, to, left, right), model.rect(rel, from, to, left, right));
        due("looks" + rect, tree.looks(rel, from, to, left, right), model.looks(rel, from, to, left, right));
        if (below(2) == 0) {
            due("row(" + rel + ", " + from + ")", tree.row(rel, from), model.row(rel, from));
        } else {
            due("column(" + rel + ", " + from + ")", tree.column(rel, from), model.column(rel, from));
        }
        for (int i = -1; i <= 16; i++) {
            due("lies(" + i + ")", tree.lies(i), model.lies(i));
        }
        due("walks(" + rel + ", " + other + ")", tree.walks(rel, other), model.walks(rel, other));
        due("products(" + rel + ", " + other + ")", tree.products(rel, other), model.products(rel, other));
        int how = what(4);
        int what = what(1);
        due("would(" + how + ", " + rel + ", " + other + ", " + what + ")", tree.would(how, rel, other, what),
            model.would(how, rel, other, what));
        int i = below(Math.max(1, model.relation(rel, 1)) + 2) - 1;
        due("pair(" + rel + ", " + i + ", " + what + ")", tree.pair(rel, i, what), model.pair(rel, i, what));
        due("unlike(" + rel + ", " + other + ")", tree.unlike(rel, other), model.unlike(rel, other));
        due("within(" + rel + ", " + other + ")", tree.within(rel, other), model.within(rel, other));
        due("busiest(" + rel + ", " + what + ")", tree.busiest(rel, what), model.busiest(rel, what));
    }

    private void steps() {
        int rel = rel();
        int from = node();
        int to = node();
        int what = what(5);
        due("has(" + rel + ", " + from + ", " + to + ")", tree.has(rel, from, to), model.has(rel, from, to));
        due("reached(" + rel + ", " + from + ")", tree.reached(rel, from), model.reached(rel, from));
        due("far(" + rel + ", " + from + ", " + to + ")", tree.far(rel, from, to), model.far(rel, from, to));
        due("mutual(" + rel + ", " + from + ")", tree.mutual(rel, from), model.mutual(rel, from));
        due("closure(" + rel + ")", tree.closure(rel), model.closure(rel));
        due("settles(" + rel + ")", tree.settles(rel), model.settles(rel));
        due("parts(" + rel + ")", tree.parts(rel), model.parts(rel));
        due("is(" + rel + ", " + what + ")", tree.is(rel, what), model.is(rel, what));
    }
}
