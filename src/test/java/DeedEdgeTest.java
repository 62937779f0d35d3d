/** The bounds of promises 13 to 24, 59 and 60: what is told, what is done, MARKS. */
public final class DeedEdgeTest {
    private static final Edge edge = new Edge();
    private static final Stage NEW = Stages.NEW;
    private static final Stage TAPED = Stages.TAPED;
    private static final Stage FULL = Stages.FULL;

    public static void main(String[] args) {
        told();
        toldAtTheEnds();
        omen();
        person();
        callAndPlank();
        callAtOnce();
        callAndHabit();
        lastCall();
        show();
        board();
        sway();
        excuse();
        see();
        paint();
        come();
        comeNinth();
        rule();
        marks();
        undone();
        undoneYears();
        notUndone();
        edge.end(13, 14, 15, 16, 17, 18, 19, 20, 21, 22, 23, 24, 59, 60);
    }

    private static void told() {
        edge.bounds(13, TAPED, "told(#)", 0, 8, 1);
        edge.bounds(13, NEW, "told(#)", 0, 8, 1);
        long[] rich = {2, 4, 2, 2, 8, 1, 5, 3, 1};
        long[] full = {6, 8, 4, 1, 12, 0, 255, 34, 0};
        for (int what = 0; what <= 8; what++) {
            edge.asks(13, TAPED, "told(" + what + ")", rich[what]);
            edge.asks(13, FULL, "told(" + what + ")", full[what]);
        }
    }

    private static void toldAtTheEnds() {
        edge.asks(13, Stages.LAST, "told(5)", 9999);
        edge.asks(13, Stages.LAST, "told(8)", 9999);
        edge.asks(13, Stages.ALL_OUT, "told(6)", 0);
        edge.asks(13, FULL.then("call()"), "told(6)", 0);
        edge.asks(13, FULL.then("show(1, false)", "show(5, false)"), "told(7)", 0);
        edge.asks(13, FULL.then("show(0, true)", "show(2, true)", "show(3, true)", "show(4, true)"), "told(7)", 63);
        // SAT counts each PERSON at each CALL, and stays with who gets OUT, or comes back.
        Stage sat = Stages.NO_OMENS.then("3 times call()");
        edge.asks(13, sat, "told(8)", 6);
        edge.asks(13, sat.then("sway(0, 0)", "call()"), "told(8)", 7);
        edge.asks(13, sat.then("sway(0, 0)", "call()", "board(0)"), "told(8)", 7);
        edge.asks(13, sat.then("come(9)"), "told(8)", 6);
    }

    private static void omen() {
        edge.bounds(14, TAPED, "omen(#, 0)", 0, 1, 1);
        edge.bounds(14, TAPED, "omen(0, #)", 0, 2, 1);
        edge.bounds(14, FULL, "omen(#, 2)", 0, 5, 1);
        edge.refuses(14, NEW, "omen(0, 0)", 1);
        edge.refuses(14, Stages.NO_OMENS, "omen(0, 0)", 1);
        edge.refuses(14, TAPED, "omen(2, 3)", 1);
        edge.asks(14, TAPED, "omen(1, 0)", 3);
        edge.asks(14, TAPED, "omen(1, 1)", 1);
        edge.asks(14, TAPED.then("show(1, false)"), "omen(1, 1)", 0);
        edge.asks(14, TAPED, "omen(0, 2)", 7);
        edge.asks(14, TAPED, "omen(1, 2)", 3);
        edge.asks(14, FULL, "omen(4, 0)", 5);
        edge.asks(14, FULL, "omen(5, 1)", 1);
        edge.asks(14, FULL, "omen(5, 2)", 0);
        Stage all = FULL;
        for (int p = 0; p < 8; p++) {
            all = all.then("excuse(" + p + ", 5, true)");
        }
        edge.asks(14, all, "omen(5, 2)", 255);
        edge.asks(14, all, "omen(4, 2)", 0);
    }

    private static void person() {
        edge.bounds(15, TAPED, "person(#, 0)", 0, 3, 1);
        edge.bounds(15, TAPED, "person(0, #)", 0, 6, 1);
        edge.bounds(15, FULL, "person(#, 6)", 0, 7, 1);
        edge.refuses(15, NEW, "person(0, 0)", 1);
        edge.refuses(15, TAPED, "person(4, 7)", 1);
        edge.bounds(15, TAPED.then("come(3)"), "person(#, 0)", 0, 4, 1);
        long[][] rich = {{1, 1, 1, 0, 3, 10, 10}, {1, 1, 0, 0, 3, 13, 13}, {5, 2, 1, 1, 1, 10, 10}, {3, 0, 0, 0, 0, 7, 7}};
        for (int p = 0; p < 4; p++) {
            for (int what = 0; what <= 6; what++) {
                edge.asks(15, TAPED, "person(" + p + ", " + what + ")", rich[p][what]);
            }
        }
        // NEED is by the OMENS that are SHOWN, and 0 at least: b and f pull 3.
        long[] needs = {0, 0, 0, 0, 1, 2, 3, 4};
        for (int p = 0; p < 8; p++) {
            edge.asks(15, FULL, "person(" + p + ", 1)", needs[p]);
            edge.asks(15, FULL, "person(" + p + ", 5)", 255 - (1 << p));
            edge.asks(15, FULL, "person(" + p + ", 6)", 255 - (1 << p));
        }
        // Whom one SEES and who SEE him are two things; who is OUT is among them.
        Stage blind = FULL.then("see(0, 7, false)", "call()");
        edge.asks(15, blind, "person(0, 5)", 126);
        edge.asks(15, blind, "person(0, 6)", 254);
        edge.asks(15, blind, "person(7, 6)", 126);
        edge.asks(15, blind, "person(7, 5)", 127);
        edge.asks(15, Stages.LAST, "person(0, 3)", 9999);
        edge.asks(15, Stages.LAST, "person(1, 3)", 0);
    }

    /** PEOPLE who rise one behind another: as many get OUT as there are ROUNDS. */
    private static void callAndPlank() {
        Stage chain = FULL.then("show(1, false)", "show(5, false)");
        for (int plank = 1; plank <= 9; plank++) {
            Stage stage = chain.then("rule(2, " + plank + ")");
            int out = plank >= 8 ? 255 : (1 << plank) - 1;
            edge.gives(16, stage, "call()", out);
            edge.asks(16, stage.then("call()"), "told(6)", 255 - out);
            edge.asks(16, stage.then("call()"), "told(5)", 1);
            edge.asks(16, stage.then("call()"), "told(8)", Math.max(0, 8 - plank));
        }
    }

    private static void callAtOnce() {
        // q SEES p up ahead of ROUND 2, not in ROUND 1.
        Stage two = new Stage("boat: plank 1;person p holds 0;person q holds 1;");
        edge.gives(16, two, "call()", 1);
        edge.gives(16, two.then("rule(2, 2)"), "call()", 3);
        // He himself does not count, nor one who is OUT, nor one whom he does not SEE.
        edge.gives(16, new Stage("boat: plank 9;person p holds 1;"), "call()", 0);
        edge.gives(16, new Stage("boat: plank 9;person p holds 0;"), "call()", 1);
        edge.gives(16, new Stage("boat: plank 9;person p holds 0 out;person q holds 1;"), "call()", 0);
        edge.gives(16, new Stage("boat: plank 9;person p holds 0;person q holds 1;blind q p;"), "call()", 1);
        edge.gives(16, new Stage("boat: plank 9;person p holds 0;person q holds 1;blind p q;"), "call()", 3);
        // As many as he NEEDS are enough, one fewer is not.
        edge.gives(16, new Stage("boat: person p holds 0;person q holds 0;person r holds 2;"), "call()", 7);
        edge.gives(16, new Stage("boat: person p holds 0;person q holds 0;person r holds 3;"), "call()", 3);
        // The OMENS that are SHOWN alone.
        Stage sign = new Stage("boat: sign a pulls 1;person p holds 1;");
        edge.gives(16, sign, "call()", 0);
        edge.gives(16, sign.then("show(0, true)"), "call()", 1);
        edge.gives(16, sign.then("show(0, true)", "excuse(0, 0, true)"), "call()", 0);
        // Nobody ON BOARD, nobody at all: there is a CALL.
        edge.gives(16, Stages.ALL_OUT, "call()", 0);
        edge.asks(16, Stages.ALL_OUT.then("call()"), "told(5)", 1);
        edge.gives(16, NEW, "call()", 0);
        edge.asks(16, NEW.then("call()"), "told(5)", 1);
    }

    /** The HOLD of who sits is HABIT more, 9 at most. */
    private static void callAndHabit() {
        for (int habit = 0; habit <= 3; habit++) {
            for (int hold = 1; hold <= 9; hold++) {
                Stage sits = new Stage("boat: habit " + habit + ";person p holds " + hold + ";person q holds " + hold + " out;", "call()");
                edge.asks(16, sits, "person(0, 0)", Math.min(9, hold + habit));
                edge.asks(16, sits, "person(1, 0)", hold);
            }
        }
        Stage goes = new Stage("boat: habit 3;person p holds 0;", "call()");
        edge.asks(16, goes, "person(0, 0)", 0);
        edge.asks(16, goes, "person(0, 3)", 0);
        edge.asks(16, goes.then("board(0)", "sway(0, 8)", "call()"), "person(0, 0)", 9);
        edge.asks(16, goes.then("board(0)", "sway(0, 8)", "call()"), "person(0, 3)", 1);
    }

    private static void lastCall() {
        edge.gives(16, Stages.NEARLY_LAST, "call()", 0);
        edge.asks(16, Stages.NEARLY_LAST.then("call()"), "told(5)", 9999);
        edge.refuses(16, Stages.LAST, "call()", 4);
        edge.refuses(16, Stages.LAST.then("sway(0, 0)"), "call()", 4);
        // Behind a new BOAT, or a MARK taken back, there is room again.
        edge.gives(16, Stages.LAST.then("boat: person p holds 0;"), "call()", 1);
        edge.gives(16, Stages.NEARLY_LAST.then("mark()", "call()", "undo()"), "call()", 0);
    }

    // ---- what is done

    private static void show() {
        edge.bounds(17, TAPED.then("show(1, false)", "show(0, false)"), "show(#, true)", 0, 1, 1);
        edge.bounds(17, TAPED, "show(#, false)", 0, 1, 1);
        edge.refuses(17, TAPED, "show(0, true)", 7);
        edge.refuses(17, TAPED.then("show(0, false)"), "show(0, false)", 7);
        edge.gives(17, TAPED.then("show(0, false)"), "show(0, true)", 1);
        edge.refuses(17, FULL, "show(5, true)", 7);
        edge.gives(17, FULL, "show(5, false)", 1);
        edge.refuses(17, FULL, "show(6, true)", 1);
        edge.refuses(17, FULL, "show(6, false)", 1);
        edge.refuses(17, NEW, "show(0, false)", 1);
    }

    private static void board() {
        edge.bounds(18, Stages.ALL_OUT, "board(#)", 0, 1, 1);
        edge.gives(18, Stages.ALL_OUT, "board(0)", 1);
        edge.gives(18, Stages.ALL_OUT.then("board(0)"), "board(1)", 2);
        edge.refuses(18, Stages.ALL_OUT.then("board(0)"), "board(0)", 7);
        edge.gives(18, TAPED, "board(3)", 3);
        edge.refuses(18, TAPED, "board(0)", 7);
        edge.refuses(18, TAPED, "board(4)", 1);
        edge.refuses(18, TAPED, "board(-1)", 1);
        edge.refuses(18, NEW, "board(0)", 1);
        Stage out = FULL.then("call()");
        edge.bounds(18, out, "board(#)", 0, 7, 1);
        Stage back = out.then("board(0)", "board(1)", "board(2)", "board(3)", "board(4)", "board(5)", "board(6)");
        edge.gives(18, back, "board(7)", 8);
        // His HOLD and how often he SAT stay.
        edge.asks(18, TAPED.then("board(3)"), "person(3, 0)", 3);
        edge.asks(18, TAPED.then("sway(2, 0)", "call()", "board(2)"), "person(2, 3)", 1);
    }

    private static void sway() {
        edge.bounds(19, TAPED, "sway(#, 4)", 0, 3, 1);
        edge.bounds(19, TAPED, "sway(0, #)", 0, 9, 1);
        edge.gives(19, TAPED, "sway(0, 1)", 1);
        edge.gives(19, TAPED, "sway(1, 9)", 1);
        edge.asks(19, TAPED.then("sway(1, 9)"), "person(1, 0)", 9);
        edge.asks(19, TAPED.then("sway(1, 0)"), "person(1, 0)", 0);
        edge.refuses(19, TAPED, "sway(4, 10)", 1);
        edge.refuses(19, NEW, "sway(0, 0)", 1);
    }

    private static void excuse() {
        edge.bounds(20, TAPED.then("excuse(0, 0, false)", "excuse(2, 0, false)", "excuse(1, 0, false)"), "excuse(#, 0, true)", 0, 3, 1);
        edge.bounds(20, TAPED, "excuse(0, #, false)", 0, 1, 1);
        edge.refuses(20, TAPED, "excuse(0, 0, true)", 7);
        edge.refuses(20, TAPED, "excuse(3, 0, false)", 7);
        edge.gives(20, TAPED, "excuse(3, 0, true)", 1);
        edge.refuses(20, TAPED.then("excuse(3, 0, true)"), "excuse(3, 0, true)", 7);
        edge.refuses(20, TAPED.then("excuse(0, 0, false)"), "excuse(0, 0, false)", 7);
        edge.gives(20, FULL, "excuse(7, 5, true)", 1);
        edge.refuses(20, FULL, "excuse(7, 6, false)", 1);
        edge.refuses(20, FULL, "excuse(8, 5, false)", 1);
        edge.refuses(20, Stages.NO_OMENS, "excuse(0, 0, false)", 1);
        // NEED follows at once.
        edge.asks(20, FULL.then("excuse(7, 1, true)"), "person(7, 1)", 6);
    }

    private static void see() {
        edge.bounds(21, TAPED.then("see(0, 3, false)", "see(2, 3, false)"), "see(3, #, false)", 0, 2, 1);
        edge.refuses(21, FULL, "see(-1, 0, false)", 1);
        edge.refuses(21, FULL, "see(8, 0, false)", 1);
        edge.refuses(21, FULL, "see(0, 8, false)", 1);
        edge.refuses(21, FULL, "see(0, -1, false)", 1);
        for (int far : new int[] {Integer.MIN_VALUE, Integer.MAX_VALUE, 32, 33}) {
            edge.refuses(21, FULL, "see(0, " + far + ", false)", 1);
            edge.refuses(21, FULL, "see(" + far + ", 0, false)", 1);
        }
        edge.gives(21, FULL, "see(0, 7, false)", 1);
        edge.gives(21, FULL, "see(7, 0, false)", 1);
        edge.refuses(21, FULL, "see(0, 7, true)", 7);
        edge.refuses(21, FULL.then("see(0, 7, false)"), "see(0, 7, false)", 7);
        edge.refuses(21, FULL.then("see(0, 7, false)"), "see(7, 0, true)", 7);
        for (int p = 0; p < 8; p++) {
            edge.refuses(21, FULL, "see(" + p + ", " + p + ", true)", 1);
            edge.refuses(21, FULL, "see(" + p + ", " + p + ", false)", 1);
        }
        // One and himself where there is no such PERSON is 1 as well.
        edge.refuses(21, NEW, "see(0, 0, true)", 1);
        edge.gives(21, TAPED, "see(0, 2, true)", 1);
        edge.refuses(21, TAPED, "see(0, 2, false)", 7);
    }

    private static void paint() {
        edge.bounds(22, TAPED, "paint(#, 4)", 0, 1, 1);
        edge.bounds(22, TAPED, "paint(0, #)", 1, 5, 1);
        edge.gives(22, TAPED, "paint(1, 3)", 1);
        edge.asks(22, TAPED.then("paint(1, 5)"), "omen(1, 0)", 5);
        edge.asks(22, TAPED.then("paint(1, 1)"), "omen(1, 0)", 1);
        edge.refuses(22, FULL, "paint(6, 1)", 1);
        edge.gives(22, FULL, "paint(5, 5)", 1);
        edge.refuses(22, NEW, "paint(0, 1)", 1);
        edge.refuses(22, TAPED, "paint(2, 6)", 1);
    }

    private static void come() {
        edge.bounds(23, TAPED, "come(#)", 0, 9, 1);
        edge.gives(23, NEW, "come(0)", 0);
        edge.gives(23, TAPED, "come(9)", 4);
        // a pulls 1, b pulls 3: he is EXCUSED from neither.
        long[] newcomer = {9, 5, 1, 0, 0, 15, 15};
        Stage came = TAPED.then("see(0, 1, false)", "come(9)");
        for (int what = 0; what <= 6; what++) {
            edge.asks(23, came, "person(4, " + what + ")", newcomer[what]);
        }
        edge.asks(23, came, "told(6)", 21);
        edge.asks(23, came, "told(1)", 5);
        // Who was BLIND stays so, to all but him.
        edge.asks(23, came, "person(0, 5)", 24);
        // Nothing of a PERSON who stood there ahead is left: four PEOPLE, EXCUSED and BLIND, then a BOAT of one.
        Stage anew = TAPED.then("boat(0)", "boat: person z holds 5;", "come(2)", "come(3)", "come(4)");
        long[] third = {4, 4, 1, 0, 0, 7, 7};
        for (int what = 0; what <= 6; what++) {
            edge.asks(23, anew, "person(3, " + what + ")", third[what]);
        }
        Stage sat = Stages.NO_OMENS.then("mark()", "come(9)", "5 times call()", "undo()", "come(9)");
        edge.asks(23, sat, "person(2, 3)", 0);
    }

    private static void comeNinth() {
        Stage seven = new Stage("boat: person p holds 1;", "6 times come(1)");
        edge.gives(23, seven, "come(1)", 7);
        edge.refuses(23, seven.then("come(1)"), "come(1)", 4);
        edge.refuses(23, FULL, "come(0)", 4);
        edge.refuses(23, FULL, "come(9)", 4);
        // 1 comes ahead of 4.
        edge.refuses(23, FULL, "come(10)", 1);
        edge.refuses(23, FULL, "come(-1)", 1);
        // Who is OUT counts among the eight.
        edge.refuses(23, FULL.then("call()"), "come(0)", 4);
        edge.gives(23, NEW.then("7 times come(1)"), "come(1)", 7);
        edge.refuses(23, NEW.then("8 times come(1)"), "come(1)", 4);
    }

    private static void rule() {
        edge.bounds(24, TAPED, "rule(#, 1)", 2, 4, 1);
        edge.bounds(24, TAPED, "rule(2, #)", 1, 9, 1);
        edge.bounds(24, TAPED, "rule(3, #)", 0, 3, 1);
        edge.bounds(24, TAPED, "rule(4, #)", 0, 16, 1);
        edge.gives(24, TAPED, "rule(3, 2)", 1);
        for (int what : new int[] {0, 1, 5, 6, 7, 8}) {
            edge.refuses(24, TAPED, "rule(" + what + ", 1)", 1);
        }
        edge.asks(24, TAPED.then("rule(2, 9)"), "told(2)", 9);
        edge.asks(24, TAPED.then("rule(3, 0)"), "told(3)", 0);
        edge.asks(24, TAPED.then("rule(4, 16)"), "told(4)", 16);
        // Each by itself.
        edge.asks(24, TAPED.then("rule(2, 9)"), "told(3)", 2);
        edge.asks(24, TAPED.then("rule(3, 0)"), "told(4)", 8);
        edge.asks(24, TAPED.then("rule(4, 16)"), "told(2)", 2);
    }

    // ---- marks

    private static void marks() {
        edge.gives(59, NEW, "mark()", 1);
        edge.gives(59, NEW.then("mark()"), "mark()", 2);
        edge.gives(59, NEW.then("2 times mark()"), "mark()", 3);
        edge.refuses(59, NEW.then("3 times mark()"), "mark()", 4);
        edge.refuses(59, TAPED.then("mark()"), "mark()", 4);
        edge.gives(59, TAPED.then("mark()", "undo()"), "mark()", 3);
        edge.gives(59, TAPED.then("3 times undo()"), "mark()", 1);
        edge.refuses(60, NEW, "undo()", 6);
        edge.gives(60, NEW.then("mark()"), "undo()", 0);
        edge.refuses(60, NEW.then("mark()", "undo()"), "undo()", 6);
        edge.gives(60, NEW.then("3 times mark()"), "undo()", 2);
        edge.gives(60, NEW.then("3 times mark()", "mark()"), "undo()", 2);
        edge.gives(60, TAPED, "undo()", 1);
        edge.gives(60, TAPED.then("undo()"), "undo()", 0);
        edge.refuses(60, TAPED.then("2 times undo()"), "undo()", 6);
    }

    /** Each thing that can be done to a BOAT is taken back, and the object is then as it was at the MARK. */
    private static void undone() {
        Stage marked = Stages.RICH.then("mark()");
        String[] deeds = {"call()", "show(0, false)", "board(1)", "sway(0, 7)", "excuse(3, 0, true)", "see(0, 2, true)", "see(0, 1, false)",
            "paint(0, 4)", "come(3)", "rule(2, 9)", "rule(3, 0)", "rule(4, 16)", "boat: person x holds 1;", "boat: ",
            "boat: " + "sign x pulls 5 shown;person a holds 9 against x;person b holds 8;blind a b;", "years: stop;", "years: "};
        for (String deed : deeds) {
            Real real = marked.then(deed, "undo()").real();
            edge.due(60, "undo() behind " + deed, Look.at(real, false), Look.at(Stages.RICH.real(), false));
        }
        // To a MARK taken in the midst, and on to the one ahead of it.
        Stage deep = NEW.then("mark()", "come(1)", "mark()", "come(2)", "mark()", "come(3)");
        edge.asks(60, deep, "told(1)", 3);
        edge.asks(60, deep.then("undo()"), "told(1)", 2);
        edge.asks(60, deep.then("2 times undo()"), "told(1)", 1);
        edge.asks(60, deep.then("3 times undo()"), "told(1)", 0);
        edge.asks(60, deep.then("mark()", "undo()"), "told(1)", 2);
        // What was kept is not changed by what is done later, nor by a MARK in its place.
        edge.asks(60, deep.then("undo()", "mark()", "sway(0, 9)", "sway(1, 9)", "undo()"), "person(1, 0)", 2);
        edge.asks(60, deep.then("undo()", "sway(1, 7)", "mark()", "sway(1, 9)", "undo()"), "person(1, 0)", 7);
    }

    private static void undoneYears() {
        edge.refuses(60, NEW.then("mark()", "years: call;", "undo()"), "live(0)", 6);
        edge.gives(60, NEW.then("years: call;", "mark()", "years: call;call;", "undo()"), "live(0)", 1);
        edge.gives(60, NEW.then("years: call;", "mark()", "boat: ", "undo()"), "live(0)", 1);
        edge.gives(60, NEW.then("years: ", "mark()", "boat: ", "undo()"), "live(0)", 0);
        edge.gives(60, NEW.then("years: call;any;call;", "mark()", "live(0)", "undo()"), "live(0)", 3);
    }

    /** TRAYS, the tape, the FRACTION, what fault() and lived() tell are not kept. */
    private static void notUndone() {
        Stage marked = TAPED;
        edge.asks(60, marked.then("write(0, 0, 9)", "undo()"), "read(0, 0)", 9);
        edge.asks(60, marked.then("tray(3, 0, 1)", "undo()"), "read(3, 0)", 0);
        edge.due(60, "the tape", marked.then("undo()").real().ask("feed", 0, 0, 0, 0, 0), 40L);
        edge.due(60, "the tape taken off", marked.then("years(20)", "undo()").real().ask("feed", 0, 0, 0, 0, 0), 20L);
        edge.due(60, "the fraction", marked.then("tides(1, 1)", "rule(4, 12)", "tides(1, 1)", "undo()").real().ask("top"), 3L);
        edge.due(60, "the fault", marked.then("years(2)", "undo()").real().ask("fault", 0), 2L);
        edge.asks(60, marked.then("years(20)", "live(0)", "undo()"), "lived(1)", 3);
    }
}
