/** The bounds of promises 9, 10 and 12: the tape, the text of a BOAT, what fault() tells of it. */
public final class BoatEdgeTest {
    private static final Edge edge = new Edge();
    private static final Stage NEW = Stages.NEW;
    private static final Stage RICH = Stages.RICH;
    private static final String[] KEYWORDS = {"plank", "habit", "odds", "sign", "pulls", "shown", "person", "holds", "out", "against",
            "blind", "call", "show", "hide", "board", "sway", "any", "when", "shows", "loop", "end", "stop"};
    private static final String SIX_SIGNS = "sign a pulls 1;sign b pulls 1;sign c pulls 1;sign d pulls 1;sign e pulls 1;sign f pulls 1;";
    private static final String EIGHT_PEOPLE = "person p holds 1;person q holds 1;person r holds 1;person s holds 1;"
            + "person t holds 1;person u holds 1;person v holds 1;person w holds 1;";

    public static void main(String[] args) {
        tapeRoom();
        tapeBytes();
        firstBytes();
        firstBytesRefused();
        everyByte();
        tokens();
        blanks();
        numbersOfRules();
        numbersOfThings();
        digits();
        without();
        nameLengths();
        keywordsAreNoNames();
        namesOfOneThing();
        namesToldAhead();
        mostThings();
        excuses();
        blind();
        numberedAsTheyStand();
        ends();
        cannotStand();
        toldAlready();
        firstAlongTheText();
        leastOfOneToken();
        takenInPlace();
        faultyChangesNothing();
        faultTells();
        faultOthers();
        edge.end(9, 10, 12);
    }

    private static void taken(String text, long people) {
        edge.gives(10, RICH, "boat: " + text, people);
    }

    private static void toldBehind(String text, int what, long want) {
        taken(text, Stage.say(RICH.then("boat: " + text).real(), "told(1)"));
        edge.asks(10, RICH.then("boat: " + text), "told(" + what + ")", want);
    }

    private static void faulty(String text, int kind, int place) {
        edge.faulty(10, RICH, "boat: " + text, kind, place);
    }

    /** The text without the mark | has its FAULT where that stands. */
    private static void faultAt(String marked, int kind) {
        faulty(marked.replace("|", ""), kind, marked.indexOf('|'));
    }

    // ---- the tape

    private static void tapeRoom() {
        Real real = NEW.real();
        for (int i = 1; i <= 45; i++) {
            edge.due(9, "feed() number " + i, real.ask("feed", i, i, i, i, i), 20L * i);
        }
        edge.due(9, "a 901st byte", real.ask("feed", 0, 0, 0, 0, 0), -1L);
        edge.due(9, "a 901st byte, again", real.ask("feed", 0, 0, 0, 0, 0), -1L);
        edge.due(9, "feed() has no status", real.ask("status"), 0L);
        String blanks900 = "tape: " + " ".repeat(900);
        Stage full = NEW.then(blanks900, "feed(-1, -1, -1, -1, -1)");
        edge.gives(9, full, "boat(900)", 0);
        Real behind = full.then("boat(900)").real();
        edge.due(9, "behind boat() the tape is empty", behind.ask("feed", 0, 0, 0, 0, 0), 20L);
        Real almost = NEW.then("tape: " + " ".repeat(880)).real();
        edge.due(9, "the 900th byte", almost.ask("feed", 0, 0, 0, 0, 0), 900L);
        edge.due(9, "a 901st byte", almost.ask("feed", 0, 0, 0, 0, 0), -1L);
        Real rich = RICH.then(blanks900).real();
        rich.ask("feed", 0, 0, 0, 0, 0);
        edge.due(9, "a feed() with NONE changes nothing", Look.at(rich, true), Look.at(RICH.then(blanks900).real(), true));
    }

    /** The highest byte of each int comes first, and those of a come ahead of those of b. */
    private static void tapeBytes() {
        String[] texts = {"plank 1;plank;;;;;;;", "habit 0;habit 00000;", "odds 16;odds 16     "};
        int[] places = {8, 8, 8};
        for (int i = 0; i < texts.length; i++) {
            int[] b = Check.bytesOf(texts[i]);
            Real real = NEW.real();
            long many = real.ask("feed", Check.four(b, 0), Check.four(b, 4), Check.four(b, 8), Check.four(b, 12), Check.four(b, 16));
            edge.due(9, texts[i], many, 20L);
            edge.due(9, texts[i] + " boat(20)", real.ask("boat", 20), -1L);
            edge.due(9, texts[i] + " fault(0)", real.ask("fault", 0), 5L);
            edge.due(9, texts[i] + " fault(1)", real.ask("fault", 1), (long) places[i]);
        }
        for (int place = 0; place < 20; place++) {
            // All bytes are blanks but one.
            byte[] raw = " ".repeat(20).getBytes();
            raw[place] = (byte) 0xC1;
            int[] b = new int[20];
            for (int i = 0; i < 20; i++) {
                b[i] = raw[i] & 255;
            }
            Real real = NEW.real();
            real.ask("feed", Check.four(b, 0), Check.four(b, 4), Check.four(b, 8), Check.four(b, 12), Check.four(b, 16));
            real.ask("boat", 20);
            edge.due(9, "a byte at " + place, real.ask("fault", 1), (long) place);
            edge.due(9, "a byte of 193 is no blank, letter, digit or sign", real.ask("fault", 0), 1L);
        }
    }

    private static void firstBytes() {
        Stage fed = RICH.then("tape: plank 1;plank 2;plank");
        edge.gives(10, fed, "boat(0)", 0);
        edge.gives(10, fed, "boat(8)", 0);
        edge.asks(10, fed.then("boat(8)"), "told(2)", 1);
        Real real = fed.then("boat(8)").real();
        edge.due(10, "the tape is empty then", real.ask("feed", 0, 0, 0, 0, 0), 20L);
        Real faulty = fed.then("boat(9)").real();
        edge.due(10, "boat(9) has a fault", faulty.ask("status"), 9L);
        edge.due(10, "at the text's length", faulty.ask("fault", 1), 8L);
        edge.due(10, "with a fault the tape is empty, too", faulty.ask("feed", 0, 0, 0, 0, 0), 20L);
        // The last byte that there is room for counts: the 900th is the sign that ends the PART.
        String last = " ".repeat(892) + "plank 7;";
        taken(last, 0);
        toldBehind(last, 2, 7);
        faulty(" ".repeat(892) + "plank 7 ", 2, 900);
        faulty(" ".repeat(893) + "plank 7", 2, 900);
        faulty(" ".repeat(899) + ";", 2, 899);
        faulty(" ".repeat(899) + "?", 1, 899);
        toldBehind(" ".repeat(900), 2, 4);
    }

    private static void firstBytesRefused() {
        edge.bounds(10, RICH.then("tape: " + " ".repeat(20)), "boat(#)", 0, 20, 1);
        edge.bounds(10, RICH, "boat(#)", 0, 0, 1);
        edge.bounds(10, RICH.then("tape: " + " ".repeat(900)), "boat(#)", 0, 900, 1);
        // 1 comes ahead of 9.
        edge.refuses(10, RICH.then("tape: ????????????????????"), "boat(21)", 1);
        edge.refuses(10, RICH.then("tape: ????????????????????"), "boat(-1)", 1);
    }

    // ---- tokens

    private static boolean isLetter(int b) {
        return b >= 'a' && b <= 'z';
    }

    private static boolean isDigit(int b) {
        return b >= '0' && b <= '9';
    }

    private static boolean isSign(int b) {
        return b == ';' || b == '<' || b == '>' || b == '=';
    }

    private static void everyByte() {
        for (int b = 0; b < 256; b++) {
            String one = "" + (char) b;
            String between = "plank" + one + "3;";
            if (b == 10 || b == 32) {
                taken(one, 0);
                toldBehind(between, 2, 3);
            } else if (isLetter(b)) {
                faulty(one, 2, 0);
                faulty(between, 2, 0);
            } else if (isDigit(b)) {
                faulty(one, 2, 0);
                if (b == '0') {
                    toldBehind(between, 2, 3);
                } else {
                    faulty(between, 4, 5);
                }
            } else {
                faulty(one, isSign(b) ? 2 : 1, 0);
                faulty(between, isSign(b) ? 2 : 1, 5);
            }
        }
    }

    /** As long as they go: nothing need stand between a WORD and a NUMBER, or by a SIGN. */
    private static void tokens() {
        toldBehind("plank3;habit2;", 2, 3);
        toldBehind("sign a pulls5shown;", 7, 1);
        toldBehind("person p holds9out against;", 6, 0);
        faultAt("|plankhabit 1;", 2);
        faultAt("plank 1|habit 1;", 2);
        faultAt("plank 1 |2;", 2);
        faultAt("plank 1|x2;", 2);
        faultAt("sign a|1 pulls 1;", 2);
        faultAt("sign a pulls 1|<;", 2);
        faultAt("sign a pulls 1 shown|=", 2);
        faultAt("sign a pulls 1|>", 2);
        faultAt("plank 1;|;", 2);
        faultAt("|;", 2);
    }

    private static void blanks() {
        toldBehind("\nplank\n3\n;\n", 2, 3);
        toldBehind(" \n \nplank \n 3;", 2, 3);
        for (int b : new int[] {0, 9, 11, 12, 13, 31, 33, 127, 128, 160, 255}) {
            faulty("plank 1;" + (char) b, 1, 8);
            faulty("plank" + (char) b + "1;", 1, 5);
        }
    }

    // ---- numbers

    private static void numberBounds(String ahead, String behind, int least, int most) {
        for (int v = 0; v <= most + 2; v++) {
            String text = ahead + v + behind;
            if (v >= least && v <= most) {
                taken(text, Stage.say(RICH.then("boat: " + text).real(), "told(1)"));
            } else {
                faulty(text, 4, ahead.length());
            }
        }
        faulty(ahead + "9999" + behind, 4, ahead.length());
        faulty(ahead + "10000" + behind, 1, ahead.length());
        faulty(ahead + "0000" + most + behind, 1, ahead.length());
        faulty(ahead + "-1" + behind, 1, ahead.length());
        faulty(ahead + ";", 2, ahead.length());
        faulty(ahead + "x" + behind, 2, ahead.length());
        faulty(ahead, 2, ahead.length());
    }

    private static void numbersOfRules() {
        numberBounds("plank ", ";", 1, 9);
        numberBounds("habit ", ";", 0, 3);
        numberBounds("odds ", ";", 0, 16);
        for (int v = 0; v <= 16; v++) {
            toldBehind("odds " + v + ";", 4, v);
        }
        for (int v = 0; v <= 3; v++) {
            toldBehind("habit " + v + ";", 3, v);
        }
        for (int v = 1; v <= 9; v++) {
            toldBehind("plank " + v + ";", 2, v);
        }
    }

    private static void numbersOfThings() {
        numberBounds("sign a pulls ", ";", 1, 5);
        numberBounds("sign a pulls ", " shown;", 1, 5);
        numberBounds("person p holds ", ";", 0, 9);
        numberBounds("person p holds ", " out against;", 0, 9);
        for (int v = 1; v <= 5; v++) {
            edge.asks(10, RICH.then("boat: sign a pulls " + v + ";"), "omen(0, 0)", v);
        }
        for (int v = 0; v <= 9; v++) {
            edge.asks(10, RICH.then("boat: person p holds " + v + ";"), "person(0, 0)", v);
        }
    }

    /** A NUMBER has 1 to 4 digits, whatever it comes to. */
    private static void digits() {
        toldBehind("plank 9;", 2, 9);
        toldBehind("plank 09;", 2, 9);
        toldBehind("plank 009;", 2, 9);
        toldBehind("plank 0009;", 2, 9);
        faultAt("plank |00009;", 1);
        faultAt("plank |0000;", 4);
        faultAt("plank |00000;", 1);
        toldBehind("odds 0016;", 4, 16);
        faultAt("odds |0017;", 4);
        faultAt("odds |00016;", 1);
        faultAt("plank |4294967297;", 1);
        faultAt("plank |18446744073709551617;", 1);
        // Where no NUMBER can stand, five digits are 1 and four are 2.
        faultAt("|1234;", 2);
        faultAt("|12345;", 1);
        faultAt("sign |1234;", 2);
        faultAt("sign |12345;", 1);
    }

    private static void without() {
        toldBehind("", 2, 4);
        toldBehind("", 3, 1);
        toldBehind("", 4, 12);
        toldBehind("habit 0;odds 0;", 2, 4);
        toldBehind("plank 9;odds 0;", 3, 1);
        toldBehind("plank 9;habit 0;", 4, 12);
    }

    // ---- names

    private static final String[] NAME_STANDS = {"sign |#", "person |#", "person p holds 1 against |#", "person p holds 1 out against |#",
            "blind |#", "person p holds 1;blind p |#"};

    private static void nameLengths() {
        taken("sign a pulls 1;person b holds 1;", 1);
        taken("sign abcdefgh pulls 1;person bcdefghi holds 1 against abcdefgh;", 1);
        taken("person zzzzzzzz holds 1;person zzzzzzzy holds 1;blind zzzzzzzz zzzzzzzy;", 2);
        for (String stand : NAME_STANDS) {
            faultAt(stand.replace("#", "abcdefghi"), 2);
            faultAt(stand.replace("#", "a".repeat(40)), 2);
            faultAt(stand.replace("#", "abcdefghi pulls 1;"), 2);
        }
        // The ninth letter is not cut off.
        faultAt("sign abcdefgh pulls 1;person p holds 1 against |abcdefghi;", 2);
        // Names that differ in the first, in the last letter, in length alone are different ones.
        taken("sign abcdefgh pulls 1;sign bbcdefgh pulls 1;sign abcdefgg pulls 1;sign abcdefg pulls 1;sign a pulls 1;sign aa pulls 1;", 0);
    }

    private static void keywordsAreNoNames() {
        for (String word : KEYWORDS) {
            for (String stand : NAME_STANDS) {
                faultAt(stand.replace("#", word), 2);
            }
            for (String near : new String[] {word + "q", "q" + word, word.substring(0, word.length() - 1)}) {
                if (near.length() <= 8 && !java.util.List.of(KEYWORDS).contains(near)) {
                    taken("sign " + near + " pulls 1;person p holds 1 against " + near + ";", 1);
                }
            }
        }
    }

    /** One NAME is of one thing alone. */
    private static void namesOfOneThing() {
        faultAt("sign a pulls 1;sign |a", 3);
        faultAt("sign a pulls 1;person |a", 3);
        faultAt("person a holds 1;sign |a", 3);
        faultAt("person a holds 1;person |a", 3);
        faultAt("person a holds 1;person b holds 1;person c holds 1;person |b holds 1;", 3);
        // A name of the BOAT ahead is free.
        taken("sign p pulls 1;person a holds 1;person b holds 1;", 2);
    }

    /** What a PART names must be told ahead, and be such a one. */
    private static void namesToldAhead() {
        faultAt("person p holds 1 against |a;sign a pulls 1;", 3);
        taken("sign a pulls 1;person p holds 1 against a;", 1);
        faultAt("person q holds 1;person p holds 1 against |q;", 3);
        faultAt("person p holds 1 against |p;", 3);
        faultAt("blind |p q;", 3);
        faultAt("person p holds 1;blind p |q;person q holds 1;", 3);
        faultAt("person q holds 1;blind |p q;person p holds 1;", 3);
        taken("person p holds 1;person q holds 1;blind p q;", 2);
        faultAt("sign a pulls 1;person p holds 1;blind |a p;", 3);
        faultAt("sign a pulls 1;person p holds 1;blind p |a;", 3);
    }

    // ---- how many

    private static void mostThings() {
        toldBehind(SIX_SIGNS, 0, 6);
        faultAt(SIX_SIGNS + "|sign g pulls 1;", 6);
        faultAt(SIX_SIGNS + "|sign", 6);
        toldBehind(EIGHT_PEOPLE, 1, 8);
        faultAt(EIGHT_PEOPLE + "|person x holds 1;", 6);
        faultAt(EIGHT_PEOPLE + "|person", 6);
        toldBehind(SIX_SIGNS + EIGHT_PEOPLE, 6, 255);
        toldBehind(EIGHT_PEOPLE + SIX_SIGNS, 0, 6);
        faultAt(SIX_SIGNS + EIGHT_PEOPLE + "|sign g", 6);
        faultAt(SIX_SIGNS + EIGHT_PEOPLE + "|person x", 6);
        toldBehind(EIGHT_PEOPLE.replace(";", " out;"), 6, 0);
        toldBehind(SIX_SIGNS.replace(";", " shown;"), 7, 63);
    }

    private static void excuses() {
        Stage all = RICH.then("boat: " + SIX_SIGNS + "person p holds 1 against f e d c b a;person q holds 1 against;");
        edge.asks(10, all, "person(0, 4)", 63);
        edge.asks(10, all, "person(1, 4)", 0);
        faultAt(SIX_SIGNS + "person p holds 1 against a b c d e f |a;", 5);
        faultAt("sign a pulls 1;person p holds 1 against a |a;", 5);
        faultAt(SIX_SIGNS + "person p holds 1 against a b |a", 5);
        // Behind another against it is no second time.
        taken("sign a pulls 1;person p holds 1 against a;person q holds 1 against a;", 2);
        faultAt("sign a pulls 1;person p holds 1 against a |against;", 2);
        faultAt("sign a pulls 1;person p holds 1 against a |out;", 2);
    }

    private static void blind() {
        Stage once = RICH.then("boat: person p holds 1;person q holds 1;person r holds 1;blind p q;");
        edge.asks(10, once, "person(0, 5)", 4);
        edge.asks(10, once, "person(1, 5)", 5);
        edge.asks(10, once, "person(1, 6)", 4);
        Stage again = RICH.then("boat: person p holds 1;person q holds 1;blind p q;blind p q;blind q p;blind p q;");
        edge.asks(10, again, "person(0, 5)", 0);
        edge.asks(10, again, "person(1, 5)", 0);
        faultAt("person p holds 1;blind p |p;", 5);
        faultAt("person p holds 1;person q holds 1;blind q |q", 5);
        faultAt("person p holds 1;person q holds 1;blind p q |p;", 2);
        // Told of who comes later, it says nothing of those.
        edge.asks(10, RICH.then("boat: person p holds 1;person q holds 1;blind p q;person r holds 1;"), "person(0, 5)", 4);
    }

    private static void numberedAsTheyStand() {
        Stage mixed = RICH.then("boat: person q holds 2;sign b pulls 4;person p holds 7;sign a pulls 5;person r holds 9 out;");
        edge.asks(10, mixed, "person(0, 0)", 2);
        edge.asks(10, mixed, "person(1, 0)", 7);
        edge.asks(10, mixed, "person(2, 0)", 9);
        edge.asks(10, mixed, "omen(0, 0)", 4);
        edge.asks(10, mixed, "omen(1, 0)", 5);
        edge.asks(10, mixed, "told(6)", 3);
    }

    // ---- faults

    /** Where the text ends ahead of a TOKEN that must stand, the place is the text's length. */
    private static void ends() {
        String[] parts = {"plank 1;", "habit 1;", "odds 1;", "sign a pulls 1;", "sign a pulls 1 shown;", "person p holds 1;",
            "person p holds 1 out;", "person p holds 1 against;", "person p holds 1 out against;",
            "person p holds 1;person q holds 1;blind p q;"};
        for (String part : parts) {
            String[] tokens = part.replace(";", " ;").split(" ");
            StringBuilder begun = new StringBuilder();
            for (String token : tokens) {
                begun.append(token);
                if (token.endsWith(";")) {
                    taken(begun.toString(), Stage.say(RICH.then("boat: " + begun).real(), "told(1)"));
                } else {
                    faulty(begun.toString(), 2, begun.length());
                    faulty(begun + " \n ", 2, begun.length() + 3);
                }
                faulty(begun + "?", 1, begun.length());
                faulty(begun + " 12345", 1, begun.length() + 1);
                faulty(begun + " 12345;", 1, begun.length() + 1);
                begun.append(' ');
            }
        }
        taken("", 0);
        faulty("sign s pulls 1;person p holds 1 against s", 2, 41);
        faulty("sign s pulls 1;person p holds 1 against s?", 1, 41);
        faulty("sign s pulls 1;person p holds 1 against s 12345", 1, 42);
    }

    private static void cannotStand() {
        for (String word : KEYWORDS) {
            if (!java.util.List.of("plank", "habit", "odds", "sign", "person", "blind").contains(word)) {
                faultAt("plank 1;|" + word + ";", 2);
            }
        }
        faultAt("|name;", 2);
        faultAt("sign a |holds 1;", 2);
        faultAt("sign a |;", 2);
        faultAt("sign a pulls |;", 2);
        faultAt("sign a pulls 1 |hidden;", 2);
        faultAt("sign a pulls 1 |out;", 2);
        faultAt("sign a pulls 1 shown |shown;", 2);
        faultAt("person p |pulls 1;", 2);
        faultAt("person p holds 1 |shown;", 2);
        faultAt("person p holds 1 |p;", 2);
        faultAt("person p holds 1 out |out;", 2);
        faultAt("person p holds 1 against |1;", 2);
        faultAt("person p holds 1 against |<;", 2);
        faultAt("blind |;", 2);
        faultAt("person p holds 1;blind p |;", 2);
        faultAt("plank |plank", 2);
    }

    private static void toldAlready() {
        for (String rule : new String[] {"plank", "habit", "odds"}) {
            faultAt(rule + " 1;|" + rule + " 1;", 5);
            faultAt(rule + " 1;|" + rule, 5);
            faultAt(rule + " 1;|" + rule + " 99;", 5);
            faultAt("plank 2;habit 2;odds 2;|" + rule + " 2;", 5);
            taken(rule + " 1;", 0);
        }
    }

    /** Of several FAULTS that along the text is told which comes first, whatever its kind. */
    private static void firstAlongTheText() {
        faultAt("plank |0;?", 4);
        faultAt("plank 1;|? plank 0;", 1);
        faultAt("plank 1;|plank 0;?", 5);
        faultAt("habit |9;plank 1;plank 1;", 4);
        faultAt("sign |sign;sign ?", 2);
        faultAt("sign a pulls |6;sign a pulls 6;", 4);
        faultAt("sign a pulls 1;sign |a pulls 9 ?", 3);
        faultAt("blind |p p;", 3);
        faultAt("person p holds 1;blind p |p ?", 5);
        faultAt("person p holds |10 against x;", 4);
        faultAt("person p holds 1 against |x ?", 3);
        faultAt(SIX_SIGNS + "|sign a pulls 9;?", 6);
        faultAt(EIGHT_PEOPLE + "|person p holds 10;?", 6);
        faultAt(SIX_SIGNS + EIGHT_PEOPLE + "plank |0;sign g", 4);
        faultAt("person p holds 1;person |p holds 99999;", 3);
        faultAt("sign a pulls |12345;sign a", 1);
        faultAt("sign s pulls 1;person p holds 1 against s |s x ?", 5);
        faultAt("sign s pulls 1;person p holds 1 against |x s s", 3);
    }

    /** Of one TOKEN the least kind is told. */
    private static void leastOfOneToken() {
        // 1 and 2: five digits where a NAME, a WORD, a SIGN must stand; a byte that begins no TOKEN.
        faultAt("sign |12345", 1);
        faultAt("sign a |00000", 1);
        faultAt("plank 1 |12345;", 1);
        faultAt("|12345", 1);
        faultAt("person p |?", 1);
        // 1 and 4: five digits that can't be so much.
        faultAt("plank |99999;", 1);
        // 2 and 3: a WORD that is no NAME is none that is told ahead either.
        faultAt("blind |sign p;", 2);
        faultAt("person p holds 1 against |abcdefghi;", 2);
        faultAt("person p holds 1;blind p |plank;", 2);
        // 2 and 6: what begins no PART.
        faultAt(SIX_SIGNS + EIGHT_PEOPLE + "|signs;", 2);
        faultAt(SIX_SIGNS + EIGHT_PEOPLE + "|stop;", 2);
    }

    // ---- what is taken, what is not

    private static void takenInPlace() {
        Stage calls = RICH.then("call()", "years: call;");
        String text = "boat: person x holds 9;person y holds 9 out;";
        edge.gives(10, calls, text, 2);
        long[] told = {0, 2, 4, 1, 12, 0, 1, 0, 0};
        for (int what = 0; what < told.length; what++) {
            edge.asks(10, calls.then(text), "told(" + what + ")", told[what]);
        }
        edge.asks(10, calls.then(text), "person(0, 3)", 0);
        edge.refuses(10, calls.then(text), "live(0)", 6);
        edge.refuses(10, calls.then(text), "mean(0, 1)", 6);
        edge.refuses(10, calls.then(text), "sloth(0)", 6);
        // What was tried ahead of it leaves nothing behind either.
        for (String tried : new String[] {"outIn(60)", "holdIn(0, 60)", "mean(0, 20)"}) {
            edge.asks(10, calls.then(tried, text), "told(5)", 0);
            edge.asks(10, calls.then(tried, text), "told(8)", 0);
            edge.asks(10, calls.then(tried, text), "person(0, 0)", 9);
        }
        // MARKS, TRAYS and the FRACTION are not the BOAT's.
        edge.gives(10, calls.then(text), "mark()", 3);
        edge.gives(10, calls.then(text), "undo()", 1);
        edge.asks(10, calls.then(text, "undo()"), "told(1)", 4);
        edge.asks(10, calls.then(text), "read(0, 1)", 127);
        edge.due(10, "the fraction stays", calls.then(text).real().ask("bottom"), 2L);
        edge.gives(10, calls, "boat: ", 0);
        edge.refuses(10, calls.then("boat: "), "live(0)", 6);
        edge.asks(10, calls.then("boat: "), "told(5)", 0);
        // The least and the most PEOPLE that it tells.
        edge.gives(10, calls, "boat: " + EIGHT_PEOPLE, 8);
    }

    /** Each kind of FAULT at the very end of a text that would change all. */
    private static void faultyChangesNothing() {
        String ahead = "plank 9;habit 0;odds 0;sign q pulls 5 shown;person a holds 9;person b holds 9;blind a b;";
        faulty(ahead + "?", 1, ahead.length());
        faulty(ahead + "person", 2, ahead.length() + 6);
        faulty(ahead + "person a", 3, ahead.length() + 7);
        faulty(ahead + "person z holds 99;", 4, ahead.length() + 15);
        faulty(ahead + "odds 1;", 5, ahead.length());
        faulty(ahead + "sign h pulls 1;sign i pulls 1;sign j pulls 1;sign k pulls 1;sign l pulls 1;sign m", 6, ahead.length() + 75);
        edge.faulty(10, NEW, "boat: " + ahead + "?", 1, ahead.length());
        edge.faulty(10, Stages.FULL, "boat: " + ahead + "?", 1, ahead.length());
        edge.faulty(10, Stages.ALL_OUT, "boat: " + ahead + "?", 1, ahead.length());
    }

    // ---- fault()

    private static void faults(String what, Stage stage, long kind, long place) {
        Real real = stage.real();
        edge.due(12, what + ": fault(0)", real.ask("fault", 0), kind);
        edge.due(12, what + ": fault(1)", real.ask("fault", 1), place);
        edge.due(12, what + ": fault(0) again", real.ask("fault", 0), kind);
    }

    private static void faultTells() {
        faults("ahead of any", NEW, -1, -1);
        faults("ahead of any, behind refused ones", NEW.then("boat(1)", "years(-1)", "boat(-1)", "years(1)"), -1, -1);
        faults("ahead of any, behind other calls", NEW.then("tape: ?", "told(0)", "call()", "mark()", "undo()"), -1, -1);
        faults("a boat is taken", NEW.then("boat: "), 0, -1);
        faults("years are taken", NEW.then("years: "), 0, -1);
        faults("a boat is not", NEW.then("boat: ?"), 1, 0);
        faults("years are not", NEW.then("years: any"), 2, 3);
        faults("the latest is taken", NEW.then("boat: ?", "years: "), 0, -1);
        faults("the latest is not", NEW.then("years: ", "boat: plank 0;"), 4, 6);
        faults("of two faults the latest", NEW.then("boat: ?", "years: any"), 2, 3);
        faults("status 1 leaves a fault", NEW.then("boat: plank 0;", "boat(1)", "years(-1)", "years(301)"), 4, 6);
        faults("status 1 leaves none", NEW.then("boat: ", "boat(1)", "years(-1)"), 0, -1);
        faults("undo() leaves it", NEW.then("mark()", "boat: plank 0;", "undo()"), 4, 6);
        faults("other calls leave it", NEW.then("boat: plank 0;", "told(9)", "call()", "tape: abc", "tray(0, 0, 1)"), 4, 6);
        faults("at the first byte", NEW.then("boat: 0"), 2, 0);
        faults("behind the last byte of 900", NEW.then("boat: " + " ".repeat(895) + "plank"), 2, 900);
        faults("behind the last byte of 300", NEW.then("years: " + " ".repeat(296) + "call"), 2, 300);
    }

    private static void faultOthers() {
        for (Stage stage : new Stage[] {NEW, NEW.then("boat: "), NEW.then("boat: plank 0;")}) {
            for (int what : new int[] {-1, 2, 3, Integer.MIN_VALUE, Integer.MAX_VALUE}) {
                edge.due(12, "fault(" + what + ")", stage.real().ask("fault", what), -1L);
            }
        }
    }
}
