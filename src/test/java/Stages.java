/** The stages that several tests ask at. */
final class Stages {
    static final Stage NEW = new Stage();

    /**
     * Something of everything, so that a change would be seen: a YEARS lived, a MARK with another state below, trays 0 to 2
     * (tray 3 is MISSING, 1 and 2 are of one sort), a FRACTION of 1 by 2. On board are p (HOLD 1, EXCUSED from a and b) and
     * r (HOLD 5, EXCUSED from a), who do not SEE each other; q (HOLD 1) and s (HOLD 3) are OUT; a and b are SHOWN; one CALL.
     */
    static final Stage RICH = new Stage(
            "boat: plank 2;habit 2;odds 8;sign a pulls 1;sign b pulls 3 shown;person p holds 1 against b;"
                    + "person q holds 1 against a b;person r holds 4 against a;person s holds 9 out;blind r p;blind p r;",
            "mark()", "years: show a;call;any;board p;sway s 3;", "live(5)",
            "tray(0, 0, 6)", "write(0, 0, -1)", "write(0, 1, 127)", "write(0, 5, 4)",
            "tray(1, 1, 4)", "write(1, 0, -300)", "write(1, 3, 1000)", "tray(2, 1, 3)", "write(2, 1, 7)",
            "tides(3, 2)", "mark()", "sway(2, 5)", "excuse(0, 0, true)");

    /** With twenty bytes on the tape, four STEPS. */
    static final Stage TAPED = RICH.then("tape: any;call;any;call;  ");

    /** All the room that there is: six OMENS, b and f SHOWN; eight PEOPLE, each of whom waits for all ahead of him. */
    static final Stage FULL = new Stage(
            "boat: sign a pulls 1;sign b pulls 2 shown;sign c pulls 3;sign d pulls 4;sign e pulls 5;sign f pulls 1 shown;"
                    + "person p holds 0;person q holds 1;person r holds 2;person s holds 3;person t holds 4;person u holds 5;"
                    + "person v holds 6;person w holds 7;");

    static final Stage ALL_OUT = new Stage("boat: sign a pulls 1;person p holds 0 out;person q holds 3 out;");

    /** No OMENS, and p, q of whom each waits for the other. */
    static final Stage NO_OMENS = new Stage("boat: person p holds 1;person q holds 1;");

    /** 9,998 CALLS behind it; p SAT in all, q is OUT. */
    static final Stage NEARLY_LAST = new Stage("boat: habit 0;odds 16;person p holds 1;person q holds 0 out;",
            "years: loop 99;call;call;call;end;call;call;", "33 times live(0)", "years: loop 65;call;call;end;call;", "live(0)",
            "years: call;any;call;");

    static final Stage LAST = NEARLY_LAST.then("call()");

    private Stages() {
    }
}
