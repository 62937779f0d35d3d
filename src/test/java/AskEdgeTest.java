/** The bounds of promises 25 to 44: a CALL by told OMENS, which OMENS, CALLS ahead. */
public final class AskEdgeTest {
    private static final Edge edge = new Edge();
    private static final Stage NEW = Stages.NEW;
    private static final Stage TAPED = Stages.TAPED;
    private static final Stage FULL = Stages.FULL;
    private static final Stage ALL_OUT = Stages.ALL_OUT;
    private static final Stage NO_OMENS = Stages.NO_OMENS;
    /** All eight rise but one behind another, or none of them. */
    private static final Stage LONG_PLANK = FULL.then("rule(2, 9)");
    private static final Stage SHORT_PLANK = FULL.then("rule(2, 1)");
    /** p, q SEE each other alone, and so do r, s. */
    private static final Stage PAIRS = new Stage("boat: person p holds 1;person q holds 1;person r holds 1;person s holds 1;"
            + "blind p r;blind p s;blind q r;blind q s;blind r p;blind r q;blind s p;blind s q;");

    public static void main(String[] args) {
        setsOfOmens();
        need();
        roundOf();
        outBy();
        restBy();
        rounds();
        atRest();
        atRestJustSo();
        rests();
        greatest();
        seeds();
        weight();
        keystone();
        luresRefused();
        lures();
        best();
        never();
        outIn();
        outAt();
        holdIn();
        edge.end(25, 26, 27, 28, 29, 30, 31, 32, 33, 34, 35, 36, 37, 38, 39, 40, 41, 42, 43, 44);
    }

    /** A set with what there is none of is refused: with six OMENS from 64 on, with none from 1 on. */
    private static void setsOfOmens() {
        String[] calls = {"27 outBy(#)", "28 restBy(#)", "29 rounds(#)", "31 rests(#)", "32 greatest(#)", "33 seeds(#)", "34 seedSet(#)",
            "36 keystone(#)", "25 need(0, #)", "26 roundOf(0, #)", "30 atRest(0, #)", "35 weight(0, #)"};
        for (String row : calls) {
            int promise = Integer.parseInt(row.substring(0, 2));
            String call = row.substring(3);
            edge.bounds(promise, FULL, call, 0, 63, 1);
            edge.bounds(promise, new Stage("boat: person p holds 0;"), call, 0, 0, 1);
            edge.bounds(promise, new Stage("boat: sign a pulls 1;person p holds 0;"), call, 0, 1, 1);
            edge.refuses(promise, FULL, call.replace("#", "128"), 1);
            edge.refuses(promise, FULL, call.replace("#", "" + (1 << 30)), 1);
            edge.refuses(promise, TAPED, call.replace("#", "4"), 1);
            edge.refuses(promise, TAPED, call.replace("#", "-1"), 1);
        }
    }

    private static void need() {
        edge.bounds(25, TAPED, "need(#, 0)", 0, 3, 1);
        edge.bounds(25, FULL, "need(#, 63)", 0, 7, 1);
        edge.refuses(25, NEW, "need(0, 0)", 1);
        edge.refuses(25, TAPED, "need(4, 4)", 1);
        // w holds 7: e pulls 5, a 1, b 2. 0 at least.
        edge.asks(25, FULL, "need(7, 0)", 7);
        edge.asks(25, FULL, "need(7, 16)", 2);
        edge.asks(25, FULL, "need(7, 17)", 1);
        edge.asks(25, FULL, "need(7, 18)", 0);
        edge.asks(25, FULL, "need(7, 19)", 0);
        edge.asks(25, FULL, "need(7, 63)", 0);
        edge.asks(25, FULL, "need(0, 0)", 0);
        edge.asks(25, FULL, "need(0, 63)", 0);
        // p is EXCUSED from both, r from a, s (who is OUT) from none.
        edge.asks(25, TAPED, "need(0, 3)", 1);
        edge.asks(25, TAPED, "need(2, 1)", 5);
        edge.asks(25, TAPED, "need(2, 3)", 2);
        edge.asks(25, TAPED, "need(3, 1)", 2);
        edge.asks(25, TAPED, "need(3, 2)", 0);
        edge.asks(25, TAPED, "need(3, 3)", 0);
        edge.asks(25, TAPED.then("sway(0, 9)"), "need(0, 0)", 9);
    }

    private static void roundOf() {
        edge.bounds(26, FULL, "roundOf(#, 0)", 0, 7, 1);
        for (Stage stage : new Stage[] {FULL, LONG_PLANK, SHORT_PLANK}) {
            for (int p = 0; p < 8; p++) {
                edge.asks(26, stage, "roundOf(" + p + ", 0)", p + 1);
                edge.asks(26, stage, "roundOf(" + p + ", 63)", 1);
            }
        }
        edge.refuses(26, NO_OMENS, "roundOf(0, 0)", 6);
        edge.asks(26, NO_OMENS.then("sway(1, 0)"), "roundOf(0, 0)", 2);
        edge.refuses(26, TAPED, "roundOf(0, 3)", 6);
        edge.refuses(26, TAPED, "roundOf(1, 3)", 7);
        edge.refuses(26, TAPED, "roundOf(3, 0)", 7);
        edge.refuses(26, ALL_OUT, "roundOf(0, 0)", 7);
        // 1 comes ahead of 6 and 7.
        edge.refuses(26, TAPED, "roundOf(0, 4)", 1);
        edge.refuses(26, TAPED, "roundOf(1, 4)", 1);
        edge.refuses(26, TAPED, "roundOf(1, -1)", 1);
        edge.refuses(26, TAPED, "roundOf(4, 0)", 1);
        edge.refuses(26, NEW, "roundOf(0, 0)", 1);
    }

    private static void outBy() {
        for (int plank = 1; plank <= 9; plank++) {
            edge.asks(27, FULL.then("rule(2, " + plank + ")"), "outBy(0)", plank >= 8 ? 255 : (1 << plank) - 1);
            edge.asks(27, FULL.then("rule(2, " + plank + ")"), "outBy(63)", 255);
        }
        edge.asks(27, NO_OMENS, "outBy(0)", 0);
        edge.asks(27, ALL_OUT, "outBy(1)", 0);
        edge.asks(27, NEW, "outBy(0)", 0);
        // By these OMENS alone, not by those SHOWN.
        edge.asks(27, SHORT_PLANK, "outBy(0)", 1);
        edge.asks(27, SHORT_PLANK, "outBy(1)", 3);
        edge.asks(27, SHORT_PLANK, "outBy(34)", 15);
    }

    private static void restBy() {
        edge.asks(28, SHORT_PLANK, "restBy(0)", 255);
        edge.asks(28, LONG_PLANK, "restBy(0)", 255);
        edge.asks(28, FULL.then("sway(0, 1)"), "restBy(0)", 0);
        edge.asks(28, FULL.then("sway(7, 8)"), "restBy(0)", 127);
        edge.asks(28, FULL.then("sway(7, 8)"), "restBy(1)", 255);
        edge.asks(28, FULL.then("sway(4, 9)"), "restBy(0)", 15);
        edge.asks(28, NO_OMENS, "restBy(0)", 0);
        edge.asks(28, ALL_OUT, "restBy(1)", 0);
        edge.asks(28, NEW, "restBy(0)", 0);
    }

    private static void rounds() {
        edge.asks(29, SHORT_PLANK, "rounds(0)", 8);
        edge.asks(29, LONG_PLANK, "rounds(0)", 8);
        edge.asks(29, FULL, "rounds(63)", 1);
        edge.asks(29, FULL.then("sway(7, 8)"), "rounds(0)", 7);
        edge.asks(29, FULL.then("sway(0, 1)"), "rounds(0)", 0);
        edge.asks(29, NO_OMENS, "rounds(0)", 0);
        edge.asks(29, NO_OMENS.then("sway(0, 0)"), "rounds(0)", 2);
        edge.asks(29, ALL_OUT, "rounds(0)", 0);
        edge.asks(29, NEW, "rounds(0)", 0);
    }

    private static void atRest() {
        edge.bounds(30, FULL, "atRest(#, 0)", 0, 255, 1);
        edge.bounds(30, NO_OMENS, "atRest(#, 0)", 0, 3, 1);
        edge.bounds(30, NEW, "atRest(#, 0)", 0, 0, 1);
        edge.refuses(30, FULL, "atRest(" + (1 << 30) + ", 0)", 1);
        edge.gives(30, TAPED, "atRest(5, 0)", 0);
        edge.refuses(30, TAPED, "atRest(2, 0)", 7);
        edge.refuses(30, TAPED, "atRest(8, 0)", 7);
        edge.refuses(30, TAPED, "atRest(15, 0)", 7);
        edge.refuses(30, TAPED, "atRest(16, 0)", 1);
        edge.refuses(30, TAPED, "atRest(18, 0)", 1);
        edge.refuses(30, TAPED, "atRest(2, 4)", 1);
        edge.refuses(30, TAPED, "atRest(15, -1)", 1);
        edge.refuses(30, ALL_OUT, "atRest(1, 0)", 7);
        edge.asks(30, ALL_OUT, "atRest(0, 0)", 1);
    }

    /** Who is of the set SEES as many as he NEEDS; who is not SEES one fewer at most. */
    private static void atRestJustSo() {
        edge.asks(30, NO_OMENS, "atRest(0, 0)", 1);
        edge.asks(30, NO_OMENS, "atRest(1, 0)", 0);
        edge.asks(30, NO_OMENS, "atRest(2, 0)", 0);
        edge.asks(30, NO_OMENS, "atRest(3, 0)", 1);
        edge.asks(30, NO_OMENS.then("sway(0, 2)"), "atRest(3, 0)", 0);
        edge.asks(30, NO_OMENS.then("sway(0, 0)"), "atRest(0, 0)", 0);
        edge.asks(30, NO_OMENS.then("sway(0, 0)"), "atRest(1, 0)", 0);
        edge.asks(30, NO_OMENS.then("sway(0, 0)", "sway(1, 2)"), "atRest(1, 0)", 1);
        edge.asks(30, NO_OMENS.then("see(0, 1, false)"), "atRest(3, 0)", 0);
        edge.asks(30, FULL, "atRest(255, 0)", 1);
        edge.asks(30, FULL, "atRest(127, 0)", 0);
        edge.asks(30, FULL.then("sway(7, 8)"), "atRest(127, 0)", 1);
        edge.asks(30, FULL.then("sway(7, 8)"), "atRest(255, 0)", 0);
        edge.asks(30, FULL.then("sway(7, 8)"), "atRest(255, 1)", 1);
        edge.asks(30, FULL.then("sway(7, 8)"), "atRest(127, 1)", 0);
    }

    private static void rests() {
        edge.asks(31, NEW, "rests(0)", 1);
        edge.asks(31, ALL_OUT, "rests(0)", 1);
        edge.asks(31, FULL, "rests(0)", 1);
        edge.asks(31, FULL.then("sway(0, 1)"), "rests(0)", 2);
        edge.asks(31, NO_OMENS, "rests(0)", 2);
        edge.asks(31, PAIRS, "rests(0)", 4);
        edge.asks(31, PAIRS.then("sway(0, 0)"), "rests(0)", 2);
        edge.asks(31, PAIRS.then("sway(0, 9)"), "rests(0)", 2);
        // Who is OUT is in no set, and is not seen.
        edge.asks(31, new Stage("boat: person p holds 1;person q holds 1;person r holds 1 out;"), "rests(0)", 2);
        edge.asks(31, new Stage("boat: person p holds 1;person q holds 2;person r holds 0 out;"), "rests(0)", 1);
    }

    private static void greatest() {
        edge.asks(32, NEW, "greatest(0)", 0);
        edge.asks(32, ALL_OUT, "greatest(1)", 0);
        edge.asks(32, FULL, "greatest(0)", 255);
        edge.asks(32, FULL.then("sway(0, 7)"), "greatest(0)", 255);
        edge.asks(32, FULL.then("sway(0, 8)"), "greatest(0)", 0);
        edge.asks(32, FULL.then("sway(7, 8)"), "greatest(0)", 127);
        edge.asks(32, NO_OMENS, "greatest(0)", 3);
        edge.asks(32, NO_OMENS.then("sway(0, 2)"), "greatest(0)", 0);
        edge.asks(32, PAIRS, "greatest(0)", 15);
        edge.asks(32, PAIRS.then("sway(0, 2)"), "greatest(0)", 12);
    }

    private static void seeds(Stage stage, int omens, int many, int set) {
        edge.asks(33, stage, "seeds(" + omens + ")", many);
        edge.asks(34, stage, "seedSet(" + omens + ")", set);
    }

    private static void seeds() {
        seeds(NEW, 0, 0, 0);
        seeds(ALL_OUT, 0, 0, 0);
        seeds(FULL, 0, 0, 0);
        seeds(SHORT_PLANK, 0, 0, 0);
        seeds(FULL.then("sway(0, 1)"), 0, 1, 1);
        seeds(FULL.then("sway(0, 1)"), 1, 0, 0);
        seeds(FULL.then("sway(0, 9)"), 0, 1, 1);
        // Of several sets the least as a number.
        seeds(NO_OMENS, 0, 1, 1);
        seeds(PAIRS, 0, 2, 5);
        seeds(PAIRS.then("see(1, 0, false)"), 0, 2, 6);
        // Fewer come ahead of less: one of r alone, though p and q as a set are less.
        seeds(new Stage("boat: person p holds 1;person q holds 1;person r holds 9;blind p q;blind q p;"), 0, 1, 4);
        // All must rise, or all but one.
        Stage eight = NEW.then("8 times come(9)");
        seeds(eight, 0, 8, 255);
        Stage seven = NEW.then("8 times come(7)");
        seeds(seven, 0, 7, 127);
        // Who is OUT is none of them.
        seeds(new Stage("boat: person p holds 0 out;person q holds 1;person r holds 1;"), 0, 1, 2);
    }

    private static void weight() {
        edge.bounds(35, FULL, "weight(#, 0)", 0, 7, 1);
        for (int p = 0; p < 8; p++) {
            edge.asks(35, LONG_PLANK, "weight(" + p + ", 0)", 7 - p);
            edge.asks(35, SHORT_PLANK, "weight(" + p + ", 0)", 0);
            edge.asks(35, LONG_PLANK, "weight(" + p + ", 63)", 0);
        }
        edge.asks(35, FULL, "weight(0, 0)", 3);
        edge.asks(35, FULL, "weight(3, 0)", 0);
        edge.refuses(35, TAPED, "weight(1, 0)", 7);
        edge.refuses(35, TAPED, "weight(3, 3)", 7);
        edge.refuses(35, TAPED, "weight(1, 4)", 1);
        edge.refuses(35, TAPED, "weight(4, 0)", 1);
        edge.refuses(35, TAPED, "weight(4, 4)", 1);
        edge.refuses(35, ALL_OUT, "weight(0, 0)", 7);
        edge.refuses(35, NEW, "weight(0, 0)", 1);
        edge.asks(35, TAPED, "weight(0, 3)", 0);
    }

    private static void keystone() {
        edge.asks(36, LONG_PLANK, "keystone(0)", 0);
        edge.asks(36, LONG_PLANK.then("sway(0, 1)", "sway(1, 0)"), "keystone(0)", 1);
        // Of several the first, even if no other hangs on him.
        edge.asks(36, SHORT_PLANK, "keystone(0)", 0);
        edge.asks(36, FULL, "keystone(63)", 0);
        edge.asks(36, ALL_OUT.then("board(1)"), "keystone(0)", 1);
        edge.asks(36, new Stage("boat: person p holds 9;person q holds 0;person r holds 1;person s holds 0;person t holds 1;"
                + "blind r s;blind t q;blind r t;blind t r;"), "keystone(0)", 1);
        edge.refuses(36, ALL_OUT, "keystone(0)", 6);
        edge.refuses(36, NEW, "keystone(0)", 6);
        edge.refuses(36, FULL.then("call()"), "keystone(0)", 6);
        edge.refuses(36, ALL_OUT, "keystone(2)", 1);
        edge.refuses(36, NEW, "keystone(1)", 1);
        edge.refuses(36, NEW, "keystone(-1)", 1);
    }

    // ---- which OMENS

    private static void luresRefused() {
        edge.bounds(37, FULL, "lures(#)", 0, 7, 1);
        edge.bounds(38, FULL, "lureSet(#)", 0, 7, 1);
        String[] calls = {"lures", "lureSet"};
        for (int i = 0; i < 2; i++) {
            edge.refuses(37 + i, TAPED, calls[i] + "(0)", 6);
            edge.refuses(37 + i, TAPED, calls[i] + "(2)", 6);
            edge.refuses(37 + i, TAPED, calls[i] + "(1)", 7);
            edge.refuses(37 + i, TAPED, calls[i] + "(3)", 7);
            edge.refuses(37 + i, TAPED, calls[i] + "(4)", 1);
            edge.refuses(37 + i, TAPED, calls[i] + "(-1)", 1);
            edge.refuses(37 + i, ALL_OUT, calls[i] + "(1)", 7);
            edge.refuses(37 + i, NO_OMENS, calls[i] + "(0)", 6);
            edge.refuses(37 + i, NEW, calls[i] + "(0)", 1);
        }
    }

    private static void lures(Stage stage, int person, int many, int set) {
        edge.asks(37, stage, "lures(" + person + ")", many);
        edge.asks(38, stage, "lureSet(" + person + ")", set);
    }

    private static void lures() {
        Stage ones = new Stage("boat: sign a pulls 1;sign b pulls 1;sign c pulls 1;sign d pulls 1;sign e pulls 1;sign f pulls 1;"
                + "person p holds 6;");
        lures(ones, 0, 6, 63);
        edge.refuses(37, ones.then("sway(0, 7)"), "lures(0)", 6);
        edge.refuses(38, ones.then("sway(0, 7)"), "lureSet(0)", 6);
        edge.refuses(37, ones.then("excuse(0, 3, true)"), "lures(0)", 6);
        lures(ones.then("sway(0, 5)", "excuse(0, 3, true)"), 0, 5, 55);
        lures(ones.then("sway(0, 0)"), 0, 0, 0);
        lures(ones.then("sway(0, 1)"), 0, 1, 1);
        lures(ones.then("sway(0, 1)", "excuse(0, 0, true)"), 0, 1, 2);
        lures(ones.then("sway(0, 2)"), 0, 2, 3);
        // These alone, whatever is SHOWN: w holds 7 and rises in ROUND 1 by c and d, by b and e, ..
        lures(SHORT_PLANK, 7, 2, 12);
        lures(LONG_PLANK, 7, 0, 0);
        lures(SHORT_PLANK, 1, 1, 1);
        lures(SHORT_PLANK, 5, 1, 16);
        // Fewest ahead of least: a and b are 3 as a set, e alone is 16.
        lures(SHORT_PLANK.then("paint(4, 3)", "paint(3, 2)", "paint(2, 2)"), 3, 1, 16);
    }

    private static void best(Stage stage, int set, int out) {
        edge.asks(39, stage, "best()", set);
        edge.asks(40, stage, "bestOut()", out);
    }

    private static void best() {
        best(NEW, 0, 0);
        best(ALL_OUT, 0, 0);
        best(NO_OMENS, 0, 0);
        best(TAPED, 0, 0);
        best(LONG_PLANK, 0, 8);
        best(SHORT_PLANK, 12, 8);
        Stage two = new Stage("boat: sign a pulls 1;sign b pulls 1;sign c pulls 2;person p holds 1;person q holds 9;");
        best(two, 1, 1);
        best(two.then("excuse(0, 0, true)"), 2, 1);
        best(two.then("sway(0, 2)"), 4, 1);
        best(two.then("sway(0, 3)"), 5, 1);
        best(two.then("sway(0, 4)"), 7, 1);
        best(two.then("sway(0, 5)"), 0, 0);
        best(two.then("sway(0, 0)"), 0, 1);
        // The most come ahead of the fewest OMENS.
        best(new Stage("boat: sign a pulls 1;sign b pulls 1;person p holds 1 against b;person q holds 1 against a;blind p q;blind q p;"), 3, 2);
    }

    private static void never() {
        edge.asks(41, NEW, "never()", 0);
        edge.asks(41, ALL_OUT, "never()", 0);
        edge.asks(41, NO_OMENS, "never()", 3);
        edge.asks(41, TAPED, "never()", 5);
        edge.asks(41, FULL, "never()", 0);
        edge.asks(41, SHORT_PLANK, "never()", 0);
        Stage six = new Stage("boat: plank 1;sign a pulls 1;sign b pulls 5;person p holds 6;person q holds 7;person r holds 9 out;");
        edge.asks(41, six, "never()", 2);
        edge.asks(41, six.then("rule(2, 2)"), "never()", 0);
    }

    // ---- CALLS ahead

    private static void outIn() {
        edge.bounds(42, TAPED, "outIn(#)", 0, 60, 1);
        edge.bounds(42, NEW, "outIn(#)", 0, 60, 1);
        edge.asks(42, TAPED, "outIn(0)", 10);
        edge.asks(42, TAPED, "outIn(60)", 10);
        edge.asks(42, FULL, "outIn(0)", 0);
        edge.asks(42, FULL, "outIn(1)", 255);
        edge.asks(42, SHORT_PLANK, "outIn(1)", 15);
        edge.asks(42, SHORT_PLANK, "outIn(2)", 15);
        edge.asks(42, SHORT_PLANK, "outIn(60)", 15);
        // With the OMENS that are SHOWN now.
        edge.asks(42, SHORT_PLANK.then("show(5, false)"), "outIn(1)", 7);
        // The 9,999th does not matter.
        edge.asks(42, Stages.LAST, "outIn(60)", 2);
        edge.asks(42, Stages.LAST.then("sway(0, 0)"), "outIn(1)", 3);
        edge.asks(42, Stages.NEARLY_LAST.then("sway(0, 0)"), "outIn(60)", 3);
    }

    private static void outAt() {
        edge.bounds(43, FULL, "outAt(#)", 0, 7, 1);
        edge.asks(43, FULL, "outAt(7)", 1);
        edge.asks(43, SHORT_PLANK, "outAt(3)", 1);
        edge.refuses(43, SHORT_PLANK, "outAt(4)", 6);
        edge.refuses(43, TAPED, "outAt(0)", 6);
        edge.refuses(43, TAPED, "outAt(1)", 7);
        edge.refuses(43, TAPED, "outAt(3)", 7);
        edge.refuses(43, TAPED, "outAt(4)", 1);
        edge.refuses(43, TAPED, "outAt(-1)", 1);
        edge.refuses(43, NEW, "outAt(0)", 1);
        edge.refuses(43, ALL_OUT, "outAt(0)", 7);
        edge.refuses(43, Stages.LAST, "outAt(0)", 6);
        edge.asks(43, Stages.LAST.then("sway(0, 0)"), "outAt(0)", 1);
    }

    private static void holdIn() {
        edge.bounds(44, TAPED, "holdIn(#, 1)", 0, 3, 1);
        edge.bounds(44, TAPED, "holdIn(2, #)", 0, 60, 1);
        edge.refuses(44, TAPED, "holdIn(4, 61)", 1);
        edge.refuses(44, NEW, "holdIn(0, 0)", 1);
        // HABIT 1: from 1 on.
        for (int calls = 0; calls <= 60; calls++) {
            edge.asks(44, NO_OMENS, "holdIn(0, " + calls + ")", Math.min(9, 1 + calls));
        }
        edge.asks(44, NO_OMENS.then("rule(3, 0)"), "holdIn(0, 60)", 1);
        edge.asks(44, NO_OMENS.then("rule(3, 3)"), "holdIn(0, 2)", 7);
        edge.asks(44, NO_OMENS.then("rule(3, 3)"), "holdIn(0, 3)", 9);
        // Who is OUT, or gets OUT, holds as he did.
        edge.asks(44, TAPED, "holdIn(3, 60)", 3);
        edge.asks(44, FULL, "holdIn(7, 60)", 7);
        edge.asks(44, SHORT_PLANK, "holdIn(4, 1)", 5);
        edge.asks(44, Stages.LAST.then("rule(3, 1)"), "holdIn(0, 1)", 2);
    }
}
