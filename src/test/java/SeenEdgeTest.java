/** The bounds of promises 45 to 55: what was seen, who SEES whom, games, odds, HOLDS in a TRAY. */
public final class SeenEdgeTest {
    private static final Edge edge = new Edge();
    private static final Stage NEW = Stages.NEW;
    private static final Stage TAPED = Stages.TAPED;
    private static final Stage FULL = Stages.FULL;
    private static final Stage ALL_OUT = Stages.ALL_OUT;
    private static final Stage NO_OMENS = Stages.NO_OMENS;
    private static final String[] SEEN = {"45 fits(@)", "46 fitsAt(@, 0)", "46 fitsAt(@, 1)", "47 ask(@)"};

    public static void main(String[] args) {
        seenNumbers();
        seenPlaces();
        seenSets();
        seenFirstStatus();
        fits();
        fitsWhoeverIsOnBoard();
        fitsAt();
        ask();
        lookouts();
        couples();
        game();
        moveOf();
        tidesBounds();
        tides();
        sloth();
        copyHolds();
        edge.end(45, 46, 47, 48, 49, 50, 51, 52, 53, 54, 55);
    }

    private static int promiseOf(String row) {
        return Integer.parseInt(row.substring(0, 2));
    }

    private static String callOf(String row, String arguments) {
        return row.substring(3).replace("@", arguments);
    }

    /** Of the three calls alike: they answer, or have that STATUS. */
    private static void seenRefused(Stage stage, String arguments, int status) {
        for (String row : SEEN) {
            edge.refuses(promiseOf(row), stage, callOf(row, arguments), status);
        }
    }

    private static void seenBounds(Stage stage, String arguments, int least, int most, int status) {
        for (String row : SEEN) {
            edge.bounds(promiseOf(row), stage, callOf(row, arguments), least, most, status);
        }
    }

    private static void seenTaken(Stage stage, String arguments) {
        for (String row : SEEN) {
            edge.bounds(promiseOf(row), stage, callOf(row, arguments).replaceFirst("\\(\\d+", "(#"), 0, 1, 1);
        }
    }

    private static final Stage TWO = new Stage("boat: sign a pulls 1;sign b pulls 3;person p holds 1;person q holds 1 out;", "tray(0, 0, 60)",
            "tray(1, 1, 60)", "tray(2, 2, 60)", "tray(3, 3, 60)");

    private static void seenNumbers() {
        seenBounds(TWO, "#, 0, 0", 0, 1, 1);
        seenBounds(TWO, "0, #, 0", 0, 3, 1);
        seenBounds(TWO, "0, 0, #", 0, 20, 1);
        seenBounds(TWO, "0, 3, #", 0, 20, 1);
        edge.bounds(46, TWO, "fitsAt(0, 0, 1, #)", 0, 1, 1);
        seenRefused(TAPED, "0, 3, 0", 2);
        seenRefused(TAPED, "4, 0, 0", 1);
        seenRefused(NEW, "0, 0, 0", 1);
    }

    /** Twice n numbers must be there. */
    private static void seenPlaces() {
        for (int n : new int[] {1, 2, 19, 20}) {
            seenTaken(TWO.then("tray(0, 0, " + 2 * n + ")"), "0, 0, " + n);
            seenRefused(TWO.then("tray(0, 0, " + (2 * n - 1) + ")"), "0, 0, " + n, 3);
            seenRefused(TWO.then("tray(0, 0, " + (2 * n - 2) + ")"), "0, 0, " + n, 3);
        }
        seenTaken(TWO.then("tray(0, 0, 0)"), "0, 0, 0");
        seenRefused(TWO.then("tray(0, 0, 0)"), "0, 0, 1", 3);
    }

    /** A set of OMENS, then a set of PEOPLE: with two OMENS and two PEOPLE both go to 3. */
    private static void seenSets() {
        for (long bad : new long[] {4, -1, 127, -128}) {
            for (int t = 0; t < 4; t++) {
                for (int place : new int[] {0, 1, 2, 3}) {
                    Stage stage = TWO.then("write(" + t + ", " + place + ", " + bad + ")");
                    seenRefused(stage, "0, " + t + ", 2", 5);
                    if (place > 1) {
                        // Behind the first n it is not looked at.
                        seenTaken(stage, "0, " + t + ", 1");
                    }
                }
                seenRefused(TWO.then("write(" + t + ", 39, " + bad + ")"), "0, " + t + ", 20", 5);
                seenTaken(TWO.then("write(" + t + ", 40, " + bad + ")"), "0, " + t + ", 20");
            }
        }
        for (long bad : new long[] {1L << 32, (1L << 32) + 1, Long.MAX_VALUE, Long.MIN_VALUE}) {
            seenRefused(TWO.then("write(3, 0, " + bad + ")"), "0, 3, 1", 5);
            seenRefused(TWO.then("write(3, 1, " + bad + ")"), "0, 3, 1", 5);
        }
        edge.asks(45, TWO.then("write(0, 0, 3)", "write(0, 1, 3)"), "fits(0, 0, 1)", 6);
        // With no OMENS the set is 0 alone; with six it goes to 63, with eight PEOPLE to 255.
        Stage none = NO_OMENS.then("tray(0, 1, 2)");
        edge.asks(45, none, "fits(0, 0, 1)", 9);
        edge.refuses(45, none.then("write(0, 0, 1)"), "fits(0, 0, 1)", 5);
        Stage full = FULL.then("tray(0, 1, 2)");
        edge.asks(45, full.then("write(0, 0, 63)", "write(0, 1, 255)"), "fits(0, 0, 1)", 10);
        edge.refuses(45, full.then("write(0, 0, 64)", "write(0, 1, 255)"), "fits(0, 0, 1)", 5);
        edge.refuses(45, full.then("write(0, 0, 63)", "write(0, 1, 256)"), "fits(0, 0, 1)", 5);
        // By 8 bits 255 is -1.
        edge.refuses(45, FULL.then("tray(0, 0, 2)", "write(0, 1, 255)"), "fits(0, 0, 1)", 5);
        edge.asks(45, FULL.then("tray(0, 0, 2)", "write(0, 1, 127)"), "fits(0, 0, 1)", 7);
    }

    /** 1, then 2, then 3, then 5, then 6. */
    private static void seenFirstStatus() {
        // Tray 0 of TAPED has -1 for its first number, and three twos; tray 3 is MISSING.
        seenRefused(TAPED, "4, 3, 0", 1);
        seenRefused(TAPED, "0, 3, 21", 1);
        seenRefused(TAPED, "0, 4, 20", 1);
        seenRefused(TAPED, "0, 0, -1", 1);
        seenRefused(TAPED, "0, 0, 21", 1);
        seenRefused(TAPED, "0, 3, 20", 2);
        seenRefused(TAPED, "0, 0, 4", 3);
        seenRefused(TAPED, "0, 0, 3", 5);
        seenRefused(TAPED, "0, 0, 1", 5);
        edge.refuses(46, TAPED, "fitsAt(0, 3, 0, 2)", 1);
        edge.refuses(46, TAPED, "fitsAt(0, 0, 4, -1)", 1);
        edge.refuses(46, TAPED, "fitsAt(0, 0, 1, 2)", 1);
        edge.refuses(47, NO_OMENS, "ask(0, 0, 0)", 2);
        edge.refuses(47, NO_OMENS.then("tray(0, 0, 1)"), "ask(0, 0, 1)", 3);
        edge.refuses(47, NO_OMENS.then("tray(0, 0, 2)", "write(0, 0, 1)"), "ask(0, 0, 1)", 5);
        edge.refuses(47, NO_OMENS.then("tray(0, 0, 2)"), "ask(0, 0, 1)", 6);
    }

    private static Stage one(Stage stage, int omens, int people) {
        return stage.then("tray(0, 1, 4)", "write(0, 0, " + omens + ")", "write(0, 1, " + people + ")");
    }

    /** By one two the HOLDS from least to most fit; from 1 to 0 none does. */
    private static void fitsFrom(int omens, int people, int least, int most) {
        Stage stage = one(FULL, omens, people);
        edge.asks(45, stage, "fits(0, 0, 1)", most - least + 1);
        if (least <= most) {
            edge.asks(46, stage, "fitsAt(0, 0, 1, 0)", least);
            edge.asks(46, stage, "fitsAt(0, 0, 1, 1)", most);
        } else {
            edge.refuses(46, stage, "fitsAt(0, 0, 1, 0)", 6);
            edge.refuses(46, stage, "fitsAt(0, 0, 1, 1)", 6);
        }
    }

    private static void fits() {
        // p is up and SEES nobody, one, .. all; he sits and SEES nobody, .. all.
        int others = 0;
        for (int many = 0; many <= 7; many++) {
            fitsFrom(0, 1 | others, 0, many);
            fitsFrom(0, others, many + 1, 9);
            others |= 2 << many;
        }
        // b pulls 2, e pulls 5, a and c 4, all of them 16.
        fitsFrom(2, 1, 0, 2);
        fitsFrom(16, 0, 6, 9);
        fitsFrom(16, 255, 0, 9);
        fitsFrom(16, 31, 0, 9);
        fitsFrom(16, 15, 0, 8);
        fitsFrom(5, 254, 1, 0);
        fitsFrom(2, 254, 1, 0);
        fitsFrom(1, 254, 9, 9);
        fitsFrom(63, 0, 1, 0);
        fitsFrom(63, 1, 0, 9);
        // All twos must fit: up by 3 or fewer, sitting by 3 or more.
        Stage two = one(FULL, 0, 15).then("write(0, 2, 0)", "write(0, 3, 6)");
        edge.asks(45, two, "fits(0, 0, 0)", 10);
        edge.asks(45, two, "fits(0, 0, 1)", 4);
        edge.asks(45, two, "fits(0, 0, 2)", 1);
        edge.asks(46, two, "fitsAt(0, 0, 2, 0)", 3);
        edge.asks(46, two, "fitsAt(0, 0, 2, 1)", 3);
        edge.asks(45, two.then("write(0, 3, 14)"), "fits(0, 0, 2)", 0);
        // His own HOLD is not asked for.
        edge.asks(45, two.then("sway(0, 9)"), "fits(0, 0, 2)", 1);
    }

    private static void fitsWhoeverIsOnBoard() {
        Stage out = one(ALL_OUT, 0, 3);
        edge.asks(45, out, "fits(0, 0, 1)", 2);
        edge.asks(46, out, "fitsAt(0, 0, 1, 1)", 1);
        edge.asks(45, out.then("see(0, 1, false)"), "fits(0, 0, 1)", 1);
        edge.asks(47, out, "ask(0, 0, 0)", 0);
        // EXCUSED from an OMEN, it does not pull him: p of TAPED.
        Stage excused = one(TAPED, 3, 0);
        edge.asks(45, excused, "fits(0, 0, 1)", 9);
        edge.asks(45, excused, "fits(2, 0, 1)", 6);
        edge.asks(45, excused, "fits(3, 0, 1)", 5);
    }

    private static void fitsAt() {
        Stage any = FULL.then("tray(0, 1, 0)");
        edge.asks(46, any, "fitsAt(0, 0, 0, 0)", 0);
        edge.asks(46, any, "fitsAt(0, 0, 0, 1)", 9);
        edge.refuses(46, any, "fitsAt(0, 0, 0, 2)", 1);
        edge.refuses(46, any, "fitsAt(0, 0, 0, -1)", 1);
        // None: 6 comes behind all others.
        Stage none = one(FULL, 63, 0);
        edge.refuses(46, none, "fitsAt(0, 0, 1, 0)", 6);
        edge.refuses(46, none, "fitsAt(0, 0, 1, 1)", 6);
        edge.refuses(46, none, "fitsAt(0, 0, 1, 2)", 1);
        edge.refuses(46, none, "fitsAt(0, 0, 3, 0)", 3);
        edge.refuses(46, none.then("write(0, 2, 64)"), "fitsAt(0, 0, 2, 0)", 5);
    }

    private static void ask() {
        Stage any = FULL.then("tray(0, 1, 0)");
        // Of ten HOLDS 5 and 5 are parted by d, which pulls 4.
        edge.asks(47, any, "ask(0, 0, 0)", 3);
        edge.asks(47, any.then("paint(0, 4)"), "ask(0, 0, 0)", 0);
        // c parts 4 and 6, e parts 6 and 4: as good, and the first is told.
        edge.asks(47, any.then("excuse(0, 3, true)"), "ask(0, 0, 0)", 2);
        edge.asks(47, any.then("paint(3, 1)", "paint(2, 1)"), "ask(0, 0, 0)", 4);
        // Two fit, one fits, none does.
        edge.asks(47, one(FULL, 0, 254), "ask(0, 0, 1)", 0);
        edge.refuses(47, one(FULL, 1, 254), "ask(0, 0, 1)", 6);
        edge.refuses(47, one(FULL, 0, 1), "ask(0, 0, 1)", 6);
        edge.refuses(47, one(FULL, 63, 0), "ask(0, 0, 1)", 6);
        // 0 and 1 fit: a, which pulls 1, lets both rise, and so do all; with an excuse from a it parts them.
        edge.asks(47, one(FULL, 0, 3), "ask(0, 0, 1)", 0);
        edge.asks(47, one(FULL, 0, 3).then("excuse(0, 5, true)"), "ask(0, 0, 1)", 5);
        // 3 to 5 fit: by c, which pulls 3, one rises. Those that do not fit are not counted.
        edge.asks(47, one(FULL, 0, 63).then("write(0, 2, 0)", "write(0, 3, 6)"), "ask(0, 0, 2)", 2);
        // No OMENS.
        edge.refuses(47, NO_OMENS.then("tray(0, 0, 0)"), "ask(0, 0, 0)", 6);
        edge.asks(47, new Stage("boat: sign a pulls 1;person p holds 1;", "tray(0, 0, 0)"), "ask(0, 0, 0)", 0);
    }

    // ---- who SEES whom

    private static void lookouts(Stage stage, int many, int set) {
        edge.asks(48, stage, "lookouts()", many);
        edge.asks(49, stage, "lookoutSet()", set);
    }

    /** Nobody SEES anybody. */
    private static Stage allBlind() {
        Stage stage = FULL;
        for (int p = 0; p < 8; p++) {
            for (int other = 0; other < 8; other++) {
                stage = p == other ? stage : stage.then("see(" + p + ", " + other + ", false)");
            }
        }
        return stage;
    }

    private static void lookouts() {
        lookouts(NEW, 0, 0);
        lookouts(ALL_OUT, 0, 0);
        lookouts(ALL_OUT.then("board(1)"), 1, 2);
        lookouts(FULL, 1, 1);
        lookouts(FULL.then("see(7, 0, false)"), 1, 2);
        lookouts(FULL.then("see(0, 7, false)"), 1, 1);
        lookouts(TAPED, 2, 5);
        lookouts(allBlind(), 8, 255);
        lookouts(allBlind().then("see(0, 7, true)"), 7, 254);
        // Of several sets the least: p and r, p and s, q and r, q and s.
        lookouts(new Stage("boat: person p holds 1;person q holds 1;person r holds 1;person s holds 1;blind p r;blind p s;blind q r;"
                + "blind q s;blind r p;blind r q;blind s p;blind s q;"), 2, 5);
        // Who is OUT is neither one, nor must SEE one.
        lookouts(new Stage("boat: person p holds 1 out;person q holds 1;person r holds 1;blind q r;blind r q;"), 2, 6);
        lookouts(new Stage("boat: person p holds 1;person q holds 1;person r holds 1 out;blind r p;blind r q;"), 1, 1);
    }

    private static void couples() {
        edge.asks(50, NEW, "couples()", 0);
        edge.asks(50, ALL_OUT, "couples()", 0);
        edge.asks(50, ALL_OUT.then("board(1)"), "couples()", 0);
        edge.asks(50, NO_OMENS, "couples()", 1);
        edge.asks(50, FULL, "couples()", 28);
        edge.asks(50, FULL.then("see(0, 7, false)"), "couples()", 27);
        edge.asks(50, FULL.then("see(7, 0, false)"), "couples()", 27);
        edge.asks(50, FULL.then("see(0, 7, false)", "see(7, 0, false)"), "couples()", 27);
        edge.asks(50, FULL.then("call()"), "couples()", 0);
        edge.asks(50, FULL.then("call()", "board(0)", "board(7)"), "couples()", 1);
        edge.asks(50, allBlind(), "couples()", 0);
        edge.asks(50, allBlind().then("see(0, 7, true)"), "couples()", 0);
        edge.asks(50, allBlind().then("see(0, 7, true)", "see(7, 0, true)"), "couples()", 1);
        edge.asks(50, TAPED, "couples()", 0);
    }

    // ---- games

    private static final Stage HIDDEN = new Stage("boat: sign a pulls 1;person p holds 1;");
    private static final Stage SHOWN = HIDDEN.then("show(0, true)");

    private static void games(Stage stage, int... values) {
        for (int turns = 0; turns <= 3; turns++) {
            edge.asks(51, stage, "game(" + turns + ")", values[turns]);
        }
    }

    private static void game() {
        for (Stage stage : new Stage[] {TAPED, FULL, NEW, ALL_OUT}) {
            edge.bounds(51, stage, "game(#)", 0, 3, 1);
        }
        games(NEW, 0, 0, 0, 0);
        games(NO_OMENS, 0, 0, 0, 0);
        games(NO_OMENS.then("sway(0, 0)"), 2, 2, 2, 2);
        games(ALL_OUT, 0, 0, 0, 0);
        games(HIDDEN, 0, 1, 0, 1);
        games(SHOWN, 1, 1, 0, 1);
        // Two signs must be shown: by one turn too few, by three the company takes one back.
        Stage both = new Stage("boat: sign a pulls 1;sign b pulls 1;person p holds 2;");
        games(both, 0, 0, 0, 0);
        games(both.then("show(0, true)"), 0, 1, 0, 1);
        games(both.then("show(0, true)", "show(1, true)"), 1, 1, 0, 1);
        // b and f pull 3, and p to s rise in ROUND 1; with e all do, and the company takes that back.
        games(FULL.then("rule(2, 1)"), 4, 8, 4, 8);
    }

    private static void moves(Stage stage, String first, String second, String third) {
        String[] due = {first, second, third};
        for (int turns = 1; turns <= 3; turns++) {
            String call = "moveOf(" + turns + ")";
            if (due[turns - 1].equals("none")) {
                edge.refuses(52, stage, call, 6);
            } else {
                edge.asks(52, stage, call, Integer.parseInt(due[turns - 1]));
            }
        }
    }

    private static void moveOf() {
        edge.bounds(52, HIDDEN, "moveOf(#)", 1, 3, 1);
        edge.bounds(52, FULL, "moveOf(#)", 1, 3, 1);
        edge.refuses(52, TAPED, "moveOf(0)", 1);
        edge.refuses(52, TAPED, "moveOf(4)", 1);
        // 1 comes ahead of 6.
        edge.refuses(52, NEW, "moveOf(0)", 1);
        edge.refuses(52, NEW, "moveOf(4)", 1);
        edge.refuses(52, NEW, "moveOf(-1)", 1);
        moves(NEW, "none", "none", "none");
        moves(NO_OMENS, "none", "none", "none");
        // As good as none is enough for an OMEN; none comes last.
        moves(HIDDEN, "0", "0", "0");
        moves(SHOWN, "none", "0", "0");
        moves(ALL_OUT, "0", "0", "0");
        Stage both = new Stage("boat: sign a pulls 1;sign b pulls 1;person p holds 2;");
        moves(both, "0", "0", "0");
        moves(both.then("show(0, true)"), "1", "0", "1");
        moves(both.then("show(1, true)"), "0", "0", "0");
        moves(both.then("show(0, true)", "show(1, true)"), "none", "0", "none");
        // Of all that are as good the first: b and c alike.
        moves(new Stage("boat: sign a pulls 1;sign b pulls 2;sign c pulls 2;person p holds 2;"), "1", "0", "0");
    }

    // ---- odds

    private static void tidesBounds() {
        edge.bounds(53, TAPED, "tides(#, 0)", 0, 12, 1);
        edge.bounds(53, TAPED, "tides(0, #)", 0, 12, 1);
        edge.bounds(53, TAPED, "tides(12, #)", 0, 12, 1);
        edge.bounds(53, TAPED, "tides(#, 12)", 0, 12, 1);
        edge.refuses(53, TAPED, "tides(13, 13)", 1);
        edge.refuses(53, TAPED, "tides(-1, -1)", 1);
    }

    private static void tides() {
        // ODDS 8.
        edge.tells(53, TAPED, "tides(0, 0)", 1, 1);
        edge.tells(53, TAPED, "tides(0, 1)", 0, 1);
        edge.tells(53, TAPED, "tides(0, 12)", 0, 1);
        edge.tells(53, TAPED, "tides(1, 0)", 1, 1);
        edge.tells(53, TAPED, "tides(1, 1)", 1, 2);
        edge.tells(53, TAPED, "tides(1, 2)", 0, 1);
        edge.tells(53, TAPED, "tides(11, 12)", 0, 1);
        edge.tells(53, TAPED, "tides(12, 12)", 1, 4096);
        edge.tells(53, TAPED, "tides(12, 11)", 13, 4096);
        edge.tells(53, TAPED, "tides(12, 1)", 4095, 4096);
        edge.tells(53, TAPED, "tides(12, 0)", 1, 1);
        edge.tells(53, TAPED, "tides(4, 2)", 11, 16);
        // ODDS at their ends, and by one from them.
        for (int n = 0; n <= 12; n++) {
            edge.tells(53, TAPED.then("rule(4, 0)"), "tides(" + n + ", 0)", 1, 1);
            edge.tells(53, TAPED.then("rule(4, 0)"), "tides(" + n + ", 1)", 0, 1);
            edge.tells(53, TAPED.then("rule(4, 16)"), "tides(" + n + ", " + n + ")", 1, 1);
            if (n < 12) {
                edge.tells(53, TAPED.then("rule(4, 16)"), "tides(" + n + ", " + (n + 1) + ")", 0, 1);
            }
        }
        long sixteen = 1L << 48;
        long fifteen = 129746337890625L;
        edge.tells(53, TAPED.then("rule(4, 1)"), "tides(12, 12)", 1, sixteen);
        edge.tells(53, TAPED.then("rule(4, 1)"), "tides(12, 1)", sixteen - fifteen, sixteen);
        edge.tells(53, TAPED.then("rule(4, 15)"), "tides(12, 12)", fifteen, sixteen);
        edge.tells(53, TAPED.then("rule(4, 15)"), "tides(12, 1)", sixteen - 1, sixteen);
        edge.tells(53, TAPED.then("rule(4, 12)"), "tides(2, 1)", 15, 16);
    }

    private static void sloth() {
        edge.bounds(54, TAPED, "sloth(#)", 0, 3, 1);
        edge.refuses(54, NO_OMENS, "sloth(0)", 6);
        edge.refuses(54, NO_OMENS, "sloth(2)", 1);
        edge.refuses(54, NO_OMENS, "sloth(-1)", 1);
        edge.refuses(54, NEW, "sloth(0)", 1);
        edge.refuses(54, NEW.then("call()"), "sloth(0)", 1);
        edge.tells(54, TAPED, "sloth(0)", 0, 1);
        edge.tells(54, TAPED, "sloth(2)", 1, 1);
        edge.tells(54, TAPED, "sloth(3)", 0, 1);
        edge.tells(54, TAPED.then("call()"), "sloth(0)", 1, 2);
        edge.tells(54, TAPED.then("3 times call()"), "sloth(0)", 3, 4);
        edge.tells(54, TAPED.then("5 times call()"), "sloth(0)", 5, 6);
        edge.tells(54, Stages.LAST, "sloth(0)", 1, 1);
        edge.tells(54, Stages.LAST, "sloth(1)", 0, 1);
        edge.tells(54, Stages.NEARLY_LAST.then("sway(0, 0)", "call()"), "sloth(0)", 9998, 9999);
        // Behind a new BOAT there was no CALL.
        edge.refuses(54, TAPED.then("years(0)", "boat: person p holds 1;"), "sloth(0)", 6);
        edge.refuses(54, NO_OMENS.then("mark()", "call()", "undo()"), "sloth(0)", 6);
    }

    private static void copyHolds() {
        edge.bounds(55, TAPED.then("tray(2, 2, 4)", "tray(3, 3, 60)"), "copyHolds(#)", 0, 3, 1);
        edge.refuses(55, TAPED, "copyHolds(3)", 2);
        edge.refuses(55, TAPED, "copyHolds(2)", 3);
        edge.gives(55, TAPED, "copyHolds(1)", 4);
        edge.gives(55, TAPED, "copyHolds(0)", 4);
        long[] holds = {1, 1, 5, 3, 0, 4};
        for (int place = 0; place < holds.length; place++) {
            edge.asks(55, TAPED.then("copyHolds(0)"), "read(0, " + place + ")", holds[place]);
        }
        // As many places as there are PEOPLE, ON BOARD or not; one fewer is too few.
        edge.gives(55, FULL.then("tray(0, 0, 8)"), "copyHolds(0)", 8);
        edge.refuses(55, FULL.then("tray(0, 0, 7)"), "copyHolds(0)", 3);
        edge.refuses(55, FULL.then("tray(0, 0, 0)"), "copyHolds(0)", 3);
        edge.asks(55, FULL.then("tray(0, 0, 8)", "copyHolds(0)"), "read(0, 7)", 7);
        edge.gives(55, ALL_OUT.then("tray(0, 3, 2)"), "copyHolds(0)", 2);
        edge.refuses(55, ALL_OUT.then("tray(0, 3, 1)"), "copyHolds(0)", 3);
        edge.gives(55, NEW.then("tray(3, 0, 0)"), "copyHolds(3)", 0);
        edge.refuses(55, NEW, "copyHolds(3)", 2);
        edge.refuses(55, NEW, "copyHolds(4)", 1);
    }
}
