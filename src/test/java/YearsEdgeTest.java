/** The bounds of promises 11 and 56 to 58: the text of YEARS, how they are lived, their mean. */
public final class YearsEdgeTest {
    private static final Edge edge = new Edge();
    private static final Stage NEW = Stages.NEW;
    private static final Stage RICH = Stages.RICH;
    private static final String THIRTY = "any;".repeat(30);

    public static void main(String[] args) {
        firstBytes();
        firstBytesRefused();
        everyByte();
        mostSteps();
        deepest();
        numbers();
        digits();
        names();
        nameLengths();
        namesOfNow();
        beginsAndEnds();
        cannotStand();
        firstAlongTheText();
        leastOfOneToken();
        takenInPlace();
        seeds();
        noYears();
        missedOrNot();
        tests();
        loops();
        stops();
        draws();
        threeHundred();
        lastCalls();
        livedWhats();
        livedStays();
        meanBounds();
        means();
        edge.end(11, 56, 57, 58);
    }

    private static void taken(String text, long steps) {
        edge.gives(11, RICH, "years: " + text, steps);
    }

    private static void faulty(String text, int kind, int place) {
        edge.faulty(11, RICH, "years: " + text, kind, place);
    }

    /** The text without the mark | has its FAULT where that stands. */
    private static void faultAt(String marked, int kind) {
        faulty(marked.replace("|", ""), kind, marked.indexOf('|'));
    }

    // ---- the text

    private static void firstBytes() {
        Stage fed = RICH.then("tape: call;call;call;????");
        edge.gives(11, fed, "years(0)", 0);
        edge.gives(11, fed, "years(10)", 2);
        edge.gives(11, fed, "years(15)", 3);
        Real real = fed.then("years(15)").real();
        edge.due(11, "the tape is empty then", real.ask("feed", 0, 0, 0, 0, 0), 20L);
        Real faulty = fed.then("years(16)").real();
        edge.due(11, "years(16) has a fault", faulty.ask("status"), 9L);
        edge.due(11, "with a fault the tape is empty, too", faulty.ask("feed", 0, 0, 0, 0, 0), 20L);
        taken(" ".repeat(295) + "call;", 1);
        taken(" ".repeat(300), 0);
        faulty(" ".repeat(296) + "call", 2, 300);
        faulty(" ".repeat(299) + "?", 1, 299);
        // 300 of more bytes: the first ones.
        edge.gives(11, RICH.then("tape: " + " ".repeat(295) + "call;" + "?".repeat(600)), "years(300)", 1);
    }

    private static void firstBytesRefused() {
        edge.bounds(11, RICH.then("tape: " + " ".repeat(320)), "years(#)", 0, 300, 1);
        edge.bounds(11, RICH.then("tape: " + " ".repeat(300)), "years(#)", 0, 300, 1);
        edge.bounds(11, RICH.then("tape: " + " ".repeat(280)), "years(#)", 0, 280, 1);
        edge.bounds(11, RICH, "years(#)", 0, 0, 1);
        edge.refuses(11, RICH.then("tape: " + " ".repeat(900)), "years(900)", 1);
        // 1 comes ahead of 9.
        edge.refuses(11, RICH.then("tape: ????????????????????"), "years(21)", 1);
        edge.refuses(11, RICH.then("tape: " + "?".repeat(320)), "years(301)", 1);
    }

    private static void everyByte() {
        for (int b = 0; b < 256; b++) {
            String one = "" + (char) b;
            String between = "loop" + one + "3;end;";
            boolean digit = b >= '0' && b <= '9';
            boolean token = digit || b >= 'a' && b <= 'z' || b == ';' || b == '<' || b == '>' || b == '=';
            if (b == 10 || b == 32) {
                taken(one, 0);
                taken(between, 1);
            } else {
                faulty(one, token ? 2 : 1, 0);
                if (digit) {
                    taken(between, 1);
                } else {
                    faulty(between, token ? 2 : 1, b >= 'a' && b <= 'z' ? 0 : 4);
                }
            }
        }
    }

    private static void mostSteps() {
        taken("", 0);
        taken("any;", 1);
        taken(THIRTY, 30);
        for (String word : new String[] {"call", "show", "hide", "board", "sway", "any", "when", "loop", "stop"}) {
            faultAt(THIRTY + "|" + word + ";", 6);
            faultAt(THIRTY + "|" + word, 6);
        }
        taken("call;show a;hide b;board p;sway q 9;any;when out r;stop;end;loop 9;end;", 9);
        // end is none: thirty STEPS with fifteen ends.
        String nested = "loop 1;any;end;".repeat(15);
        taken(nested, 30);
        faultAt(nested + "|any;", 6);
        faultAt(nested + "|end;", 2);
        taken("any;".repeat(28) + "loop 1;any;end;", 30);
        faultAt("any;".repeat(28) + "loop 1;any;|any;end;", 6);
        taken("any;".repeat(29) + "loop 1;end;", 30);
    }

    private static void deepest() {
        taken("loop 1;loop 1;loop 1;call;end;end;end;", 4);
        taken("when out p;when out q;when out r;call;end;end;end;", 4);
        faultAt("loop 1;loop 1;loop 1;|loop 1;end;end;end;end;", 7);
        faultAt("when out p;when out q;when out r;|when out s;end;end;end;end;", 7);
        faultAt("loop 1;when out p;loop 1;|when", 7);
        faultAt("when out p;loop 1;when out p;call;|loop 0", 7);
        // One that is closed is no longer around what comes behind it.
        taken("loop 1;loop 1;loop 1;end;loop 1;end;end;end;loop 1;loop 1;loop 1;end;end;end;", 7);
        faultAt("loop 1;loop 1;loop 1;end;loop 1;|loop 1;", 7);
        taken("loop 1;end;loop 1;end;loop 1;end;loop 1;end;", 4);
    }

    private static void numberBounds(String ahead, String behind, long steps, int least, int most) {
        for (int v : new int[] {0, 1, 5, 9, 10, 99, 100, 9999}) {
            if (v >= least && v <= most) {
                taken(ahead + v + behind, steps);
            } else {
                faulty(ahead + v + behind, 4, ahead.length());
            }
        }
        faulty(ahead + "10000" + behind, 1, ahead.length());
        faulty(ahead + "00001" + behind, 1, ahead.length());
        faulty(ahead + "-1" + behind, 1, ahead.length());
        faulty(ahead + ";", 2, ahead.length());
        faulty(ahead + "p;", 2, ahead.length());
        faulty(ahead, 2, ahead.length());
    }

    private static void numbers() {
        numberBounds("loop ", ";end;", 1, 1, 99);
        numberBounds("sway p ", ";", 1, 0, 9);
        numberBounds("when holds p < ", ";end;", 1, 0, 9);
        numberBounds("when holds p > ", ";end;", 1, 0, 9);
        numberBounds("when holds p = ", ";end;", 1, 0, 9);
    }

    private static void digits() {
        taken("loop 0099;end;", 1);
        faultAt("loop |0100;end;", 4);
        faultAt("loop |00099;end;", 1);
        faultAt("loop |0000;end;", 4);
        taken("sway p 0009;", 1);
        faultAt("sway p |00009;", 1);
        taken("when holds p=0000;end;", 1);
        faultAt("when holds p=|00000;end;", 1);
    }

    // ---- names

    private static final String[] OMEN_STANDS = {"show |#", "hide |#", "when shows |#"};
    private static final String[] PERSON_STANDS = {"board |#", "sway |#", "when out |#", "when holds |#"};

    /** An OMEN behind show, hide, shows; else PEOPLE. */
    private static void names() {
        taken("show a;hide b;when shows a;end;", 3);
        taken("board p;sway q 1;when out r;end;when holds s = 1;end;", 4);
        for (String stand : OMEN_STANDS) {
            for (String name : new String[] {"p", "s", "x", "aa"}) {
                faultAt(stand.replace("#", name), 3);
            }
            badNames(stand);
        }
        for (String stand : PERSON_STANDS) {
            for (String name : new String[] {"a", "b", "x", "pp"}) {
                faultAt(stand.replace("#", name), 3);
            }
            badNames(stand);
        }
    }

    private static void badNames(String stand) {
        for (String word : new String[] {"plank", "habit", "odds", "sign", "pulls", "shown", "person", "holds", "out", "against", "blind",
            "call", "show", "hide", "board", "sway", "any", "when", "shows", "loop", "end", "stop", "1", ";", "<", "abcdefghi"}) {
            faultAt(stand.replace("#", word), 2);
        }
        faultAt(stand.replace("#", ""), 2);
        faultAt(stand.replace("#", "12345"), 1);
        faultAt(stand.replace("#", "?"), 1);
    }

    private static void nameLengths() {
        Stage longNames = NEW.then("boat: sign abcdefgh pulls 1;person zyxwvuts holds 1;person z holds 1;");
        edge.gives(11, longNames, "years: show abcdefgh;board zyxwvuts;board z;", 3);
        edge.faulty(11, longNames, "years: show abcdefg;", 3, 5);
        edge.faulty(11, longNames, "years: show abcdefghi;", 2, 5);
        edge.faulty(11, longNames, "years: board zyxwvut;", 3, 6);
        edge.faulty(11, longNames, "years: board zyxwvutsr;", 2, 6);
    }

    /** Those are named whom the BOAT has now; who came by come() has no NAME. */
    private static void namesOfNow() {
        edge.faulty(11, NEW, "years: board p;", 3, 6);
        edge.faulty(11, NEW.then("come(0)"), "years: board p;", 3, 6);
        edge.faulty(11, RICH.then("boat: person x holds 1;"), "years: board p;", 3, 6);
        edge.gives(11, RICH.then("boat: person x holds 1;"), "years: board x;", 1);
        edge.gives(11, RICH.then("boat: person x holds 1 ?"), "years: board p;", 1);
        edge.gives(11, RICH.then("boat: person x holds 1;", "undo()"), "years: board p;", 1);
        edge.faulty(11, RICH.then("boat: person x holds 1;", "undo()"), "years: board x;", 3, 6);
    }

    // ---- faults

    private static void beginsAndEnds() {
        faultAt("|end;", 2);
        faultAt("any;|end;", 2);
        faultAt("loop 1;end;|end;", 2);
        faultAt("when out p;any;end;|end;", 2);
        faultAt("loop 1;|", 2);
        faultAt("loop 1;any; |", 2);
        faultAt("loop 1;loop 1;end;|", 2);
        faultAt("when out p;\n\n|", 2);
        faultAt("loop 1;end|", 2);
        faultAt("loop 1;end |any;", 2);
        faultAt("loop 1;end |1;", 2);
        // Nothing need stand within.
        taken("loop 1;end;", 1);
        taken("when out p;end;", 1);
        String[] steps = {"call;", "show a;", "hide a;", "board p;", "sway p 1;", "any;", "stop;", "when out p;end;", "when shows a;end;",
            "when holds p < 1;end;", "loop 1;end;"};
        for (String step : steps) {
            StringBuilder begun = new StringBuilder();
            for (String token : step.replace(";", " ; ").split(" +")) {
                begun.append(token).append(' ');
                faulty(begun + "?", 1, begun.length());
                faulty(begun + "12345", 1, begun.length());
                faulty(begun + "12345;", 1, begun.length());
                faulty(begun + "12345 = 1;end;", 1, begun.length());
                if (!begun.toString().replace(" ", "").equals(step.replace(" ", ""))) {
                    faulty(begun.toString(), 2, begun.length());
                    faulty(begun.toString().trim(), 2, begun.length() - 1);
                }
            }
            taken(begun.toString(), 1);
        }
    }

    private static void cannotStand() {
        for (String word : new String[] {"plank", "habit", "odds", "sign", "pulls", "shown", "person", "holds", "out", "against", "blind",
            "shows", "p", "a", "abcdefghi", "1", ";", "<", ">", "="}) {
            faultAt("any;|" + word + " 1;", 2);
        }
        for (String word : new String[] {"call", "p", "a", "1", ";", "<", "shown", "hold", "when", "end"}) {
            faultAt("when |" + word, 2);
        }
        for (String word : new String[] {";", "1", "p", "is"}) {
            faultAt("when holds p |" + word, 2);
        }
        faultAt("when holds p < |=", 2);
        faultAt("when out p |= 1;", 2);
        faultAt("when shows a |a;", 2);
        faultAt("call |call;", 2);
        faultAt("call |1;", 2);
        faultAt("any |16;", 2);
        faultAt("stop |stop;", 2);
        faultAt("board p |1;", 2);
        faultAt("show a |b;", 2);
        faultAt("sway p 1 |2;", 2);
        faultAt("loop 1 |2;", 2);
    }

    private static void firstAlongTheText() {
        faultAt("loop |0;?", 4);
        faultAt("any;|? loop 0;", 1);
        faultAt("show |x;end;", 3);
        faultAt("|end;show x;", 2);
        faultAt("sway |x 10;", 3);
        faultAt("sway p |10 ?", 4);
        faultAt("when holds |a 1;", 3);
        faultAt("loop |100;loop 1;loop 1;loop 1;", 4);
        faultAt(THIRTY.substring(4) + "board |a;any;any;", 3);
        faultAt("loop 1;loop 1;loop 1;|loop 1;" + THIRTY, 7);
        faultAt(THIRTY + "|loop 0;?", 6);
        faultAt("loop 1;any;|?", 1);
    }

    private static void leastOfOneToken() {
        // 6 and 7: a 31st STEP that is too deep as well.
        faultAt("any;".repeat(27) + "loop 1;loop 1;loop 1;|loop 1;", 6);
        faultAt("any;".repeat(26) + "loop 1;loop 1;loop 1;|loop 1;", 7);
        // 2 and 6: what is no STEP is no 31st one.
        for (String word : new String[] {"end", "shows", "plank", "p", "1", ";"}) {
            faultAt(THIRTY + "|" + word, 2);
        }
        faultAt(THIRTY + "|12345", 1);
        faultAt(THIRTY + "|?", 1);
        // 1 and 4, 1 and 2.
        faultAt("loop |99999;", 1);
        faultAt("when |12345", 1);
        // 2 and 3.
        faultAt("board |abcdefghi;", 2);
    }

    private static void takenInPlace() {
        edge.gives(11, RICH, "years: call;", 1);
        edge.gives(11, RICH.then("years: call;call;"), "live(0)", 2);
        edge.gives(11, RICH.then("years: call;call;", "years: call;"), "live(0)", 1);
        edge.gives(11, RICH.then("years: call;call;", "years: call"), "live(0)", 2);
        edge.gives(11, RICH.then("years: call;call;", "years: "), "live(0)", 0);
        edge.gives(11, RICH.then("years: call;call;", "years(1)"), "live(0)", 2);
        edge.faulty(11, NEW, "years: call", 2, 4);
        edge.refuses(11, NEW.then("years: call"), "live(0)", 6);
        // Nothing else is changed by YEARS that are taken.
        edge.asks(11, RICH.then("years: call;"), "told(5)", 1);
    }

    // ---- live

    private static void seeds() {
        edge.bounds(56, RICH, "live(#)", 0, 9999, 1);
        edge.bounds(56, Stages.TAPED, "live(#)", 0, 9999, 1);
        // 1 comes ahead of 6.
        edge.refuses(56, NEW, "live(-1)", 1);
        edge.refuses(56, NEW, "live(10000)", 1);
    }

    private static void noYears() {
        edge.refuses(56, NEW, "live(0)", 6);
        edge.refuses(56, NEW, "live(9999)", 6);
        edge.refuses(56, Stages.FULL, "live(0)", 6);
        edge.refuses(56, RICH.then("boat: "), "live(0)", 6);
        edge.gives(56, RICH.then("boat: ", "undo()"), "live(0)", 5);
        edge.refuses(56, RICH.then("undo()", "undo()"), "live(0)", 6);
        edge.gives(56, NEW.then("years: "), "live(0)", 0);
        edge.gives(56, NEW.then("years: call;"), "live(0)", 1);
    }

    /** How the YEARS go: STEPS done, MISSED, CALLS, OUT, SAT, left. */
    private static void lives(Stage stage, String years, int seed, long... due) {
        Stage ready = stage.then("years: " + years);
        edge.gives(56, ready, "live(" + seed + ")", due[0]);
        Stage behind = ready.then("live(" + seed + ")");
        for (int what = 0; what <= 4; what++) {
            edge.due(57, years + " by seed " + seed + ", lived(" + what + ")",
                    Stage.say(behind.real(), "lived(" + what + ")"), due[what + 1]);
        }
    }

    /** a is hidden, b is SHOWN; p (HOLD 3) and r (HOLD 0, whom nobody SEES) are ON BOARD, q is OUT. */
    private static final Stage SOME = new Stage("boat: habit 1;odds 8;sign a pulls 1;sign b pulls 1 shown;person p holds 3 against a b;"
            + "person q holds 9 out;person r holds 0;blind p r;blind q r;");

    /** A show, hide, board, sway of what is so is MISSED, and counts as a STEP. */
    private static void missedOrNot() {
        lives(SOME, "show a;", 0, 1, 0, 0, 0, 0, 0);
        lives(SOME, "show b;", 0, 1, 1, 0, 0, 0, 0);
        lives(SOME, "hide a;", 0, 1, 1, 0, 0, 0, 0);
        lives(SOME, "hide b;", 0, 1, 0, 0, 0, 0, 0);
        lives(SOME, "show a;show a;hide a;hide a;", 0, 4, 2, 0, 0, 0, 0);
        lives(SOME, "board p;", 0, 1, 1, 0, 0, 0, 0);
        lives(SOME, "board q;", 0, 1, 0, 0, 0, 0, 0);
        lives(SOME, "board q;board q;", 0, 2, 1, 0, 0, 0, 0);
        lives(SOME, "sway p 3;", 0, 1, 1, 0, 0, 0, 0);
        lives(SOME, "sway p 4;", 0, 1, 0, 0, 0, 0, 0);
        lives(SOME, "sway p 0;sway p 9;sway p 9;", 0, 3, 1, 0, 0, 0, 0);
        lives(SOME, "call;", 0, 1, 0, 1, 1, 1, 0);
        lives(SOME, "call;call;", 0, 2, 0, 2, 1, 2, 0);
        lives(SOME, "call;board r;call;", 0, 3, 0, 2, 2, 2, 0);
        lives(SOME, "stop;", 0, 1, 0, 0, 0, 0, 0);
        lives(SOME, "", 0, 0, 0, 0, 0, 0, 0);
        lives(NEW, "call;", 0, 1, 0, 1, 0, 0, 0);
        // A sway is by what there is then: p holds 4 behind the CALL.
        lives(SOME, "call;sway p 4;sway p 3;", 0, 3, 1, 1, 1, 1, 0);
    }

    private static void tests() {
        // Behind a when that holds there is one STEP more.
        lives(SOME, "when out p;stop;end;", 0, 1, 0, 0, 0, 0, 0);
        lives(SOME, "when out q;stop;end;", 0, 2, 0, 0, 0, 0, 0);
        lives(SOME, "when shows a;stop;end;", 0, 1, 0, 0, 0, 0, 0);
        lives(SOME, "when shows b;stop;end;", 0, 2, 0, 0, 0, 0, 0);
        for (int hold = 0; hold <= 9; hold++) {
            lives(SOME, "when holds p < " + hold + ";stop;end;", 0, 3 < hold ? 2 : 1, 0, 0, 0, 0, 0);
            lives(SOME, "when holds p > " + hold + ";stop;end;", 0, 3 > hold ? 2 : 1, 0, 0, 0, 0, 0);
            lives(SOME, "when holds p = " + hold + ";stop;end;", 0, 3 == hold ? 2 : 1, 0, 0, 0, 0, 0);
        }
        // Those at the ends: a HOLD of 0 is not below 0, one of 9 not above 9.
        lives(SOME, "when holds r < 0;stop;end;", 0, 1, 0, 0, 0, 0, 0);
        lives(SOME, "when holds r = 0;stop;end;", 0, 2, 0, 0, 0, 0, 0);
        lives(SOME, "when holds q > 9;stop;end;", 0, 1, 0, 0, 0, 0, 0);
        lives(SOME, "when holds q = 9;stop;end;", 0, 2, 0, 0, 0, 0, 0);
        // Where a loop was cut short by 300 STEPS ahead, a when is none.
        lives(SOME.then("years: loop 99;any;any;any;any;end;", "live(0)"), "when shows b;hide a;end;", 0, 2, 1, 0, 0, 0, 0);
        // It is asked each time that it is come to.
        lives(SOME, "loop 3;when shows a;hide a;end;show a;end;", 0, 9, 0, 0, 0, 0, 0);
    }

    private static void loops() {
        lives(SOME, "loop 1;call;end;", 0, 2, 0, 1, 1, 1, 0);
        lives(SOME, "loop 2;call;end;", 0, 3, 0, 2, 1, 2, 0);
        lives(SOME, "loop 99;call;end;", 0, 100, 0, 99, 1, 99, 0);
        lives(SOME, "loop 99;end;", 0, 1, 0, 0, 0, 0, 0);
        lives(SOME, "loop 2;loop 3;call;end;end;", 0, 9, 0, 6, 1, 6, 0);
        lives(SOME, "loop 2;loop 2;loop 2;call;end;end;end;", 0, 15, 0, 8, 1, 8, 0);
        lives(SOME, "loop 2;loop 2;end;loop 2;end;end;", 0, 5, 0, 0, 0, 0, 0);
    }

    /** Nothing behind a stop is left to be done. */
    private static void stops() {
        lives(SOME, "stop;call;", 0, 1, 0, 0, 0, 0, 0);
        lives(SOME, "loop 9;call;stop;end;call;", 0, 3, 0, 1, 1, 1, 0);
        lives(SOME, "when shows b;stop;end;call;", 0, 2, 0, 0, 0, 0, 0);
        lives(SOME, "when shows a;stop;end;call;", 0, 2, 0, 1, 1, 1, 0);
    }

    private static void draws() {
        // By seed 19 the draw is 0, by 27 it is 15, by 0 it is 14, then 4, 10; by 9,999 it is 1, then 13.
        int[][] made = {{0, 19, 0}, {1, 19, 1}, {15, 27, 0}, {16, 27, 1}, {14, 0, 0}, {15, 0, 1}, {1, 9999, 0}, {2, 9999, 1}};
        for (int[] m : made) {
            lives(SOME.then("rule(4, " + m[0] + ")"), "any;", m[1], 1, 1 - m[2], m[2], m[2], m[2], 0);
        }
        // A draw is made by an any that is MISSED, too.
        lives(SOME.then("rule(4, 5)"), "any;any;any;", 0, 3, 2, 1, 1, 1, 0);
        lives(SOME.then("rule(4, 4)"), "any;any;any;", 0, 3, 3, 0, 0, 0, 0);
        lives(SOME.then("rule(4, 14)"), "any;any;any;", 0, 3, 1, 2, 1, 2, 0);
        lives(SOME.then("rule(4, 13)"), "any;any;", 9999, 2, 1, 1, 1, 1, 0);
        lives(SOME.then("rule(4, 14)"), "any;any;", 9999, 2, 0, 2, 1, 2, 0);
        lives(SOME.then("rule(4, 0)"), "loop 99;any;end;", 7, 100, 99, 0, 0, 0, 0);
        lives(SOME.then("rule(4, 16)"), "loop 99;any;end;", 7, 100, 0, 99, 1, 99, 0);
        // No other STEP draws, and each live() begins with its seed.
        lives(SOME.then("rule(4, 15)"), "call;show a;when shows a;loop 1;any;end;end;", 0, 5, 0, 2, 1, 2, 0);
        Stage twice = SOME.then("rule(4, 5)", "years: any;", "live(0)");
        edge.gives(56, twice, "live(0)", 1);
        edge.asks(57, twice.then("live(0)"), "lived(0)", 1);
    }

    private static void threeHundred() {
        String ahead = "loop 99;call;call;call;end;";
        // 298 STEPS.
        lives(SOME, ahead + "call;", 0, 299, 0, 298, 1, 298, 0);
        lives(SOME, ahead + "call;call;", 0, 300, 0, 299, 1, 299, 0);
        lives(SOME, ahead + "call;call;call;", 0, 300, 0, 299, 1, 299, 1);
        lives(SOME, ahead + "call;stop;", 0, 300, 0, 298, 1, 298, 0);
        lives(SOME, ahead + "call;call;stop;", 0, 300, 0, 299, 1, 299, 1);
        lives(SOME, ahead + "call;stop;call;", 0, 300, 0, 298, 1, 298, 0);
        // The 300th is a when or a loop: what is within is left, if it would be come to.
        lives(SOME, ahead + "call;when shows b;end;", 0, 300, 0, 298, 1, 298, 0);
        lives(SOME, ahead + "call;when shows b;call;end;", 0, 300, 0, 298, 1, 298, 1);
        lives(SOME, ahead + "call;when shows a;call;end;", 0, 300, 0, 298, 1, 298, 0);
        lives(SOME, ahead + "call;when shows a;call;end;call;", 0, 300, 0, 298, 1, 298, 1);
        lives(SOME, ahead + "call;loop 99;end;", 0, 300, 0, 298, 1, 298, 0);
        lives(SOME, ahead + "call;loop 1;call;end;", 0, 300, 0, 298, 1, 298, 1);
        // The 301st would be a when or a loop.
        lives(SOME, ahead + "call;call;when shows a;end;", 0, 300, 0, 299, 1, 299, 1);
        lives(SOME, ahead + "call;call;loop 1;end;", 0, 300, 0, 299, 1, 299, 1);
        // The 300th is the last of a loop: it has come to its end, or comes back.
        lives(SOME, "loop 99;call;call;end;loop 51;call;call;end;", 0, 300, 0, 298, 1, 298, 1);
        lives(SOME, "loop 99;call;call;end;loop 50;call;call;end;", 0, 300, 0, 298, 1, 298, 0);
        // MISSED ones count.
        lives(SOME, "loop 99;show a;show a;show a;end;show a;show a;show a;", 0, 300, 298, 0, 0, 0, 1);
        // Loops alone.
        lives(SOME, "loop 99;loop 99;loop 99;end;end;end;", 0, 300, 0, 0, 0, 0, 1);
        lives(SOME, "loop 3;loop 98;loop 1;end;end;end;", 0, 298, 0, 0, 0, 0, 0);
        lives(SOME, "loop 3;loop 99;loop 1;end;end;end;", 0, 300, 0, 0, 0, 0, 1);
    }

    /** A 10,000th CALL is MISSED, by any too. */
    private static void lastCalls() {
        lives(Stages.NEARLY_LAST, "call;", 0, 1, 0, 1, 0, 1, 0);
        lives(Stages.NEARLY_LAST, "call;call;", 0, 2, 1, 1, 0, 1, 0);
        lives(Stages.NEARLY_LAST, "any;any;", 0, 2, 1, 1, 0, 1, 0);
        lives(Stages.NEARLY_LAST, "call;any;board q;", 0, 3, 1, 1, 0, 1, 0);
        lives(Stages.LAST, "call;", 0, 1, 1, 0, 0, 0, 0);
        lives(Stages.LAST, "any;", 0, 1, 1, 0, 0, 0, 0);
        edge.asks(56, Stages.LAST.then("years: call;any;", "live(0)"), "told(5)", 9999);
        edge.asks(56, Stages.LAST.then("years: call;any;", "live(0)"), "person(0, 3)", 9999);
    }

    // ---- lived

    private static void livedWhats() {
        edge.bounds(57, RICH, "lived(#)", 0, 4, 1);
        edge.refuses(57, NEW, "lived(0)", 6);
        edge.refuses(57, NEW, "lived(4)", 6);
        edge.refuses(57, NEW, "lived(5)", 1);
        edge.refuses(57, NEW, "lived(-1)", 1);
        edge.refuses(57, NEW.then("live(0)"), "lived(0)", 6);
        edge.refuses(57, NEW.then("years: call;"), "lived(0)", 6);
        edge.refuses(57, NEW.then("years: call;", "live(10000)"), "lived(0)", 6);
        edge.refuses(57, NEW.then("years: call;", "mean(0, 20)"), "lived(0)", 6);
        edge.asks(57, NEW.then("years: ", "live(0)"), "lived(0)", 0);
        edge.asks(57, NEW.then("years: call;", "live(0)"), "lived(1)", 1);
    }

    /** Of live() latest with STATUS 0. */
    private static void livedStays() {
        Stage two = NEW.then("years: call;call;", "live(0)");
        for (String other : new String[] {"live(-1)", "live(10000)", "mean(0, 3)", "call()", "years: ", "years: call", "boat: ", "boat: ?",
            "mark()", "boat: person p holds 1;"}) {
            edge.asks(57, two.then(other), "lived(1)", 2);
        }
        edge.asks(57, two.then("boat: ", "live(0)"), "lived(1)", 2);
        // What a longer one came to is not added to, and a STEP left then is none now.
        Stage cut = SOME.then("years: loop 99;call;any;show a;show a;end;", "live(0)");
        edge.asks(57, cut, "lived(4)", 1);
        for (int what = 0; what <= 4; what++) {
            edge.asks(57, cut.then("years: ", "live(0)"), "lived(" + what + ")", 0);
        }
        edge.asks(57, two.then("years: call;", "live(0)"), "lived(1)", 1);
        edge.asks(57, NEW.then("years: call;call;", "mark()", "live(0)", "undo()"), "lived(1)", 2);
        edge.asks(57, NEW.then("years: call;call;", "mark()", "live(0)", "undo()"), "told(5)", 0);
    }

    // ---- mean

    private static void meanBounds() {
        edge.bounds(58, RICH, "mean(#, 1)", 0, 9999, 1);
        edge.bounds(58, RICH, "mean(0, #)", 1, 20, 1);
        edge.bounds(58, RICH, "mean(#, 20)", 0, 9980, 1);
        edge.bounds(58, RICH, "mean(#, 2)", 0, 9998, 1);
        edge.bounds(58, RICH, "mean(9990, #)", 1, 10, 1);
        edge.refuses(58, RICH, "mean(" + Integer.MAX_VALUE + ", " + Integer.MAX_VALUE + ")", 1);
        edge.refuses(58, RICH, "mean(" + Integer.MIN_VALUE + ", " + Integer.MIN_VALUE + ")", 1);
        edge.refuses(58, RICH, "mean(-1, 2)", 1);
        edge.refuses(58, NEW, "mean(0, 1)", 6);
        edge.refuses(58, NEW, "mean(9980, 20)", 6);
        edge.refuses(58, NEW, "mean(9981, 20)", 1);
        edge.refuses(58, NEW, "mean(0, 21)", 1);
        edge.refuses(58, NEW, "mean(0, 0)", 1);
        edge.refuses(58, NEW, "mean(-1, 1)", 1);
        edge.refuses(58, RICH.then("boat: "), "mean(0, 1)", 6);
    }

    private static void means() {
        Stage one = new Stage("boat: odds 8;person p holds 0;", "years: any;", "tides(1, 1)");
        // By seed 0 the draw is 14, by 1 it is 10, by 2 it is 6, by 3 it is 2.
        edge.tells(58, one, "mean(0, 1)", 0, 1);
        edge.tells(58, one, "mean(2, 1)", 1, 1);
        edge.tells(58, one, "mean(1, 2)", 1, 2);
        edge.tells(58, one, "mean(0, 3)", 1, 3);
        edge.tells(58, one, "mean(0, 20)", 1, 2);
        edge.tells(58, one.then("rule(4, 9)"), "mean(0, 20)", 11, 20);
        edge.tells(58, one.then("rule(4, 3)"), "mean(9980, 20)", 1, 5);
        edge.tells(58, one.then("rule(4, 2)"), "mean(9999, 1)", 1, 1);
        edge.tells(58, one.then("rule(4, 1)"), "mean(9999, 1)", 0, 1);
        // Each seed begins with all as it is; who is OUT already counts.
        edge.tells(58, one.then("call()"), "mean(0, 20)", 1, 1);
        edge.tells(58, one.then("call()", "years: board p;"), "mean(0, 20)", 0, 1);
        edge.tells(58, NEW.then("years: call;"), "mean(0, 20)", 0, 1);
        edge.tells(58, NEW.then("years: "), "mean(0, 20)", 0, 1);
        edge.tells(58, Stages.FULL.then("rule(2, 9)", "years: call;"), "mean(0, 20)", 8, 1);
        edge.tells(58, Stages.LAST, "mean(0, 20)", 1, 1);
        // q and s are OUT, and nobody rises.
        edge.tells(58, Stages.TAPED, "mean(0, 20)", 2, 1);
    }
}
