/** The bounds of promises 1 to 8: a new object, STATUS, the FRACTION, TRAYS. */
public final class TrayEdgeTest {
    private static final Edge edge = new Edge();
    private static final Stage NEW = Stages.NEW;
    private static final Stage TAPED = Stages.TAPED;
    private static final Stage FOUR = TAPED.then("tray(3, 3, 2)");

    public static void main(String[] args) {
        newObject();
        statusOfEach();
        statusStays();
        fraction();
        tray();
        trayIsNew();
        write();
        cuts();
        read();
        pourTaken();
        pourRefused();
        pourFirstStatus();
        edge.end(1, 2, 3, 4, 5, 6, 7, 8);
    }

    private static void newObject() {
        Real real = NEW.real();
        edge.due(1, "status()", real.ask("status"), 0L);
        edge.due(1, "top()", real.ask("top"), 0L);
        edge.due(1, "bottom()", real.ask("bottom"), 1L);
        edge.due(1, "fault(0)", real.ask("fault", 0), -1L);
        edge.due(1, "fault(1)", real.ask("fault", 1), -1L);
        long[] told = {0, 0, 4, 1, 12, 0, 0, 0, 0};
        for (int what = 0; what < told.length; what++) {
            edge.asks(1, NEW, "told(" + what + ")", told[what]);
        }
        for (int t = 0; t < 4; t++) {
            edge.refuses(1, NEW, "read(" + t + ", 0)", 2);
            edge.refuses(1, NEW, "write(" + t + ", 0, 0)", 2);
        }
        edge.refuses(1, NEW, "omen(0, 0)", 1);
        edge.refuses(1, NEW, "person(0, 0)", 1);
        edge.refuses(1, NEW, "live(0)", 6);
        edge.refuses(1, NEW, "mean(0, 1)", 6);
        edge.refuses(1, NEW, "lived(0)", 6);
        edge.refuses(1, NEW, "undo()", 6);
        edge.refuses(1, NEW, "boat(1)", 1);
        edge.refuses(1, NEW, "years(1)", 1);
        edge.gives(1, NEW, "mark()", 1);
        edge.due(1, "feed() on an empty tape", NEW.real().ask("feed", 0, 0, 0, 0, 0), 20L);
    }

    private static final String[] OF_EACH_STATUS = {"told(0)", "told(9)", "read(3, 0)", "read(0, 6)", "mark()", "fits(0, 0, 1)",
            "lures(2)", "board(0)", "pour(0, 0, 1, 0, 1)", "boat(3)"};

    private static void statusOfEach() {
        Stage stage = TAPED.then("mark()");
        for (int status = 0; status < OF_EACH_STATUS.length; status++) {
            Real real = stage.real();
            Stage.say(real, OF_EACH_STATUS[status]);
            edge.due(2, "behind " + OF_EACH_STATUS[status], real.ask("status"), (long) status);
            for (int next = 0; next < OF_EACH_STATUS.length - 1; next++) {
                Stage.say(real, OF_EACH_STATUS[next]);
                edge.due(2, "then behind " + OF_EACH_STATUS[next], real.ask("status"), (long) next);
            }
        }
    }

    /** status(), top(), bottom(), feed(), fault() have no STATUS: that of the call ahead stays. */
    private static void statusStays() {
        String[] without = {"status()", "top()", "bottom()", "fault(0)", "fault(1)", "fault(2)", "fault(-1)", "feed(0, 0, 0, 0, 0)"};
        for (int status = 0; status < OF_EACH_STATUS.length; status++) {
            for (String call : without) {
                Real real = TAPED.then("mark()", OF_EACH_STATUS[status], call).real();
                edge.due(2, OF_EACH_STATUS[status] + ", " + call, real.ask("status"), (long) status);
            }
        }
        Real full = NEW.then("45 times feed(0, 0, 0, 0, 0)", "told(9)", "feed(0, 0, 0, 0, 0)").real();
        edge.due(2, "a feed() with NONE", full.ask("status"), 1L);
    }

    private static void toldFraction(String what, Stage stage, long top, long bottom) {
        Real real = stage.real();
        edge.due(3, what, real.ask("top"), top);
        edge.due(4, what, real.ask("bottom"), bottom);
    }

    private static void fraction() {
        toldFraction("at first", NEW, 0, 1);
        toldFraction("told latest", NEW.then("tides(1, 1)"), 3, 4);
        toldFraction("told latest of two", NEW.then("tides(1, 1)", "tides(2, 2)"), 9, 16);
        toldFraction("0 is 0 by 1", NEW.then("tides(12, 12)", "rule(4, 0)", "tides(12, 12)"), 0, 1);
        toldFraction("1 is 1 by 1", NEW.then("tides(12, 0)"), 1, 1);
        toldFraction("without a common divisor", NEW.then("rule(4, 8)", "tides(12, 12)"), 1, 4096);
        toldFraction("the greatest bottom", NEW.then("rule(4, 1)", "tides(12, 12)"), 1, 1L << 48);
        toldFraction("the greatest top", NEW.then("rule(4, 1)", "tides(12, 1)"), (1L << 48) - 129746337890625L, 1L << 48);
        toldFraction("with no divisor to take out", Stages.NO_OMENS.then("call()", "come(9)", "2 times call()", "sloth(2)"), 2, 3);
        for (String refused : new String[] {"tides(13, 0)", "tides(-1, 0)", "sloth(0)", "sloth(-1)", "mean(0, 1)", "mean(0, 0)"}) {
            toldFraction("behind " + refused, NEW.then("tides(1, 1)", refused), 3, 4);
        }
        for (String other : new String[] {"boat(0)", "mark()", "told(0)", "call()", "feed(0, 0, 0, 0, 0)", "boat(9)"}) {
            toldFraction("behind " + other, NEW.then("tides(1, 1)", other), 3, 4);
        }
        toldFraction("behind undo()", NEW.then("mark()", "tides(1, 1)", "undo()"), 3, 4);
    }

    private static void tray() {
        edge.bounds(5, TAPED, "tray(#, 0, 1)", 0, 3, 1);
        edge.bounds(5, TAPED, "tray(0, #, 1)", 0, 3, 1);
        edge.bounds(5, TAPED, "tray(0, 0, #)", 0, 60, 1);
        edge.bounds(5, TAPED, "tray(3, 3, #)", 0, 60, 1);
        edge.gives(5, NEW, "tray(3, 3, 60)", 1);
        edge.gives(5, NEW, "tray(0, 0, 0)", 1);
    }

    private static void trayIsNew() {
        edge.asks(5, TAPED.then("tray(0, 3, 6)"), "read(0, 1)", 0);
        edge.refuses(5, TAPED.then("tray(0, 0, 5)"), "read(0, 5)", 3);
        edge.refuses(5, TAPED.then("tray(0, 0, 0)"), "read(0, 0)", 3);
        edge.gives(5, TAPED.then("tray(0, 0, 7)"), "read(0, 6)", 0);
        Stage again = NEW.then("tray(1, 2, 60)", "write(1, 59, 7)", "tray(1, 2, 1)", "tray(1, 2, 60)");
        edge.asks(5, again, "read(1, 59)", 0);
        edge.asks(5, NEW.then("tray(1, 0, 1)", "tray(1, 3, 1)", "write(1, 0, 300)"), "read(1, 0)", 300);
        edge.asks(5, NEW.then("tray(1, 3, 1)", "tray(1, 0, 1)", "write(1, 0, 300)"), "read(1, 0)", 44);
        edge.refuses(5, NEW.then("tray(1, 3, 1)"), "read(0, 0)", 2);
    }

    private static void write() {
        edge.bounds(6, FOUR, "write(#, 0, 5)", 0, 3, 1);
        edge.bounds(6, FOUR, "write(0, #, 5)", 0, 5, 3);
        edge.bounds(6, FOUR.then("tray(2, 3, 60)"), "write(2, #, 5)", 0, 59, 3);
        edge.refuses(6, FOUR.then("tray(2, 3, 0)"), "write(2, 0, 5)", 3);
        edge.refuses(6, TAPED, "write(3, 0, 5)", 2);
        edge.refuses(6, TAPED, "write(3, 60, 5)", 2);
        edge.refuses(6, TAPED, "write(3, -1, 5)", 2);
        edge.refuses(6, TAPED, "write(4, -1, 5)", 1);
        edge.refuses(6, TAPED, "write(-1, 6, 5)", 1);
    }

    private static void cuts() {
        long[][] cuts = {
            {0, 127, 127}, {0, 128, -128}, {0, 255, -1}, {0, 256, 0}, {0, -128, -128}, {0, -129, 127}, {0, Long.MAX_VALUE, -1},
            {0, Long.MIN_VALUE, 0}, {1, 32767, 32767}, {1, 32768, -32768}, {1, 65535, -1}, {1, 65536, 0}, {1, -32768, -32768},
            {1, -32769, 32767}, {1, Long.MAX_VALUE, -1}, {1, Long.MIN_VALUE, 0}, {2, 2147483647, 2147483647},
            {2, 2147483648L, -2147483648L}, {2, 4294967295L, -1}, {2, 4294967296L, 0}, {2, -2147483648L, -2147483648L},
            {2, -2147483649L, 2147483647}, {2, Long.MAX_VALUE, -1}, {2, Long.MIN_VALUE, 0}, {3, 2147483648L, 2147483648L},
            {3, Long.MAX_VALUE, Long.MAX_VALUE}, {3, Long.MIN_VALUE, Long.MIN_VALUE}, {3, -1, -1}};
        for (long[] cut : cuts) {
            Stage stage = NEW.then("tray(2, " + cut[0] + ", 3)", "write(2, 1, " + cut[1] + ")");
            edge.gives(6, NEW.then("tray(2, " + cut[0] + ", 3)"), "write(2, 1, " + cut[1] + ")", 1);
            edge.asks(6, stage, "read(2, 1)", cut[2]);
            edge.asks(6, stage, "read(2, 0)", 0);
            edge.asks(6, stage, "read(2, 2)", 0);
        }
    }

    private static void read() {
        edge.bounds(7, FOUR, "read(#, 0)", 0, 3, 1);
        edge.bounds(7, FOUR, "read(0, #)", 0, 5, 3);
        edge.bounds(7, FOUR.then("tray(2, 3, 60)"), "read(2, #)", 0, 59, 3);
        edge.refuses(7, FOUR.then("tray(2, 3, 0)"), "read(2, 0)", 3);
        edge.asks(7, TAPED, "read(0, 0)", -1);
        edge.refuses(7, TAPED, "read(0, 6)", 3);
        edge.asks(7, TAPED, "read(0, 5)", 4);
        edge.refuses(7, TAPED, "read(3, 0)", 2);
        edge.refuses(7, TAPED, "read(3, -1)", 2);
        edge.refuses(7, TAPED, "read(3, 60)", 2);
        edge.refuses(7, TAPED, "read(4, -1)", 1);
        edge.refuses(7, TAPED, "read(-1, 60)", 1);
    }

    private static void pourTaken() {
        Stage five = NEW.then("tray(0, 3, 5)", "write(0, 0, 10)", "write(0, 1, 11)", "write(0, 2, 12)", "write(0, 3, 13)",
                "write(0, 4, 14)", "tray(1, 3, 3)", "write(1, 0, 20)", "write(1, 1, 21)", "write(1, 2, 22)");
        poured(five, "pour(0, 0, 1, 0, 3)", "10 11 12 13 14", "10 11 12");
        poured(five, "pour(0, 2, 1, 0, 3)", "10 11 12 13 14", "12 13 14");
        poured(five, "pour(0, 4, 1, 2, 1)", "10 11 12 13 14", "20 21 14");
        poured(five, "pour(1, 0, 0, 2, 3)", "10 11 20 21 22", "20 21 22");
        poured(five, "pour(0, 0, 0, 1, 4)", "10 10 11 12 13", "20 21 22");
        poured(five, "pour(0, 1, 0, 0, 4)", "11 12 13 14 14", "20 21 22");
        poured(five, "pour(0, 0, 0, 0, 5)", "10 11 12 13 14", "20 21 22");
        poured(five, "pour(0, 0, 1, 0, 0)", "10 11 12 13 14", "20 21 22");
        poured(five, "pour(0, 5, 1, 3, 0)", "10 11 12 13 14", "20 21 22");
        Stage widest = NEW.then("tray(0, 0, 60)", "tray(3, 0, 60)", "write(0, 59, 7)", "write(0, 0, -1)");
        edge.gives(8, widest, "pour(0, 0, 3, 0, 60)", 1);
        edge.asks(8, widest.then("pour(0, 0, 3, 0, 60)"), "read(3, 59)", 7);
        edge.asks(8, widest.then("pour(0, 0, 3, 0, 60)"), "read(3, 0)", -1);
        edge.gives(8, NEW.then("tray(0, 0, 0)"), "pour(0, 0, 0, 0, 0)", 1);
    }

    private static void poured(Stage stage, String call, String first, String second) {
        edge.gives(8, stage, call, 1);
        Stage behind = stage.then(call);
        String[] rows = {first, second};
        for (int t = 0; t < 2; t++) {
            String[] row = rows[t].split(" ");
            for (int i = 0; i < row.length; i++) {
                long got = Stage.say(behind.real(), "read(" + t + ", " + i + ")");
                edge.due(8, "read(" + t + ", " + i + ") behind " + call, got, Long.parseLong(row[i]));
            }
        }
    }

    private static void pourRefused() {
        // Trays 1 (of four numbers) and 2 (of three) are of one sort.
        edge.bounds(8, FOUR.then("tray(0, 1, 4)", "tray(3, 1, 4)"), "pour(#, 0, 1, 0, 1)", 0, 3, 1);
        edge.bounds(8, FOUR.then("tray(0, 1, 4)", "tray(3, 1, 4)"), "pour(1, 0, #, 0, 1)", 0, 3, 1);
        edge.gives(8, FOUR, "pour(1, 1, 2, 0, 3)", 1);
        edge.refuses(8, FOUR, "pour(1, 2, 2, 0, 3)", 3);
        edge.refuses(8, FOUR, "pour(1, 0, 2, 1, 3)", 3);
        edge.refuses(8, FOUR, "pour(1, 0, 2, 0, 4)", 3);
        edge.refuses(8, FOUR, "pour(2, 0, 1, 0, 4)", 3);
        edge.gives(8, FOUR, "pour(1, 4, 2, 3, 0)", 1);
        edge.refuses(8, FOUR, "pour(1, 5, 2, 3, 0)", 3);
        edge.refuses(8, FOUR, "pour(1, 4, 2, 4, 0)", 3);
        int far = Integer.MAX_VALUE;
        edge.refuses(8, FOUR, "pour(1, " + far + ", 2, 0, 1)", 3);
        edge.refuses(8, FOUR, "pour(1, 0, 2, " + far + ", 1)", 3);
        edge.refuses(8, FOUR, "pour(1, 0, 2, 0, " + far + ")", 3);
        edge.refuses(8, FOUR, "pour(1, " + far + ", 2, " + far + ", " + far + ")", 3);
        edge.refuses(8, FOUR, "pour(1, 2, 1, 1, 3)", 3);
        for (int below : new int[] {-1, Integer.MIN_VALUE}) {
            edge.refuses(8, FOUR, "pour(1, " + below + ", 2, 0, 1)", 1);
            edge.refuses(8, FOUR, "pour(1, 0, 2, " + below + ", 1)", 1);
            edge.refuses(8, FOUR, "pour(1, 0, 2, 0, " + below + ")", 1);
        }
        edge.refuses(8, FOUR, "pour(0, 0, 1, 0, 1)", 8);
        edge.refuses(8, FOUR, "pour(1, 0, 3, 0, 0)", 8);
        edge.refuses(8, TAPED, "pour(3, 0, 1, 0, 1)", 2);
        edge.refuses(8, TAPED, "pour(1, 0, 3, 0, 0)", 2);
        edge.refuses(8, TAPED, "pour(3, 0, 3, 0, 0)", 2);
    }

    /** Asked in this order: 1, 2, 8, 3. */
    private static void pourFirstStatus() {
        edge.refuses(8, TAPED, "pour(3, 0, 4, 0, 0)", 1);
        edge.refuses(8, TAPED, "pour(-1, 0, 3, 0, 0)", 1);
        edge.refuses(8, TAPED, "pour(3, -1, 0, 0, 0)", 1);
        edge.refuses(8, TAPED, "pour(0, 0, 1, -1, 9)", 1);
        edge.refuses(8, TAPED, "pour(0, 7, 1, 0, -1)", 1);
        edge.refuses(8, TAPED, "pour(3, 9, 1, 9, 9)", 2);
        edge.refuses(8, TAPED, "pour(0, 9, 3, 9, 9)", 2);
        edge.refuses(8, TAPED, "pour(0, 9, 1, 9, 9)", 8);
        edge.refuses(8, TAPED, "pour(1, 4, 0, 0, 1)", 8);
        edge.refuses(8, TAPED, "pour(1, 4, 2, 0, 1)", 3);
    }
}
