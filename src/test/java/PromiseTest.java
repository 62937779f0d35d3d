/** Each promise of the document by its number: ordinary inputs, the edges that it names, wrong inputs. Answers by hand. */
public final class PromiseTest {
    private static final Check c = new Check();

    // Ann rises by a alone, ben behind her, cis behind both; dov is blind to ann and ben; eve is out.
    private static final String CHAIN = "plank 2; habit 2; odds 8; sign a pulls 1; sign b pulls 3 shown;"
            + " person ann holds 1 against b; person ben holds 1 against b a; person cis holds 2 against a b;"
            + " person dov holds 4 against a; person eve holds 9 out; blind dov ann; blind dov ben;";

    public static void main(String[] args) {
        newObject();
        statusAndFraction();
        trays();
        pour();
        feed();
        boatTaken();
        boatFaults();
        yearsFaults();
        faultTells();
        told();
        calls();
        callsNearTheLast();
        changes();
        needsAndRounds();
        rests();
        seedsAndWeights();
        luresAndBest();
        ahead();
        seen();
        lookouts();
        games();
        odds();
        livedSteps();
        livedByDraws();
        livedLimits();
        means();
        marks();
        anyNumber();
        c.end();
    }

    private static void newObject() {
        IslandCall x = new IslandCall();
        c.due("1 status", x.status(), 0);
        c.due("1 top", x.top(), 0);
        c.due("1 bottom", x.bottom(), 1);
        int[] first = {0, 0, 4, 1, 12, 0, 0, 0, 0};
        for (int what = 0; what < first.length; what++) {
            c.due("1 told " + what, x.told(what), first[what]);
        }
        c.due("1 fault 0", x.fault(0), -1);
        c.due("1 fault 1", x.fault(1), -1);
        c.due(x, "1 boat(1) of an empty tape", x.boat(1), -1, 1);
        for (int t = 0; t < 4; t++) {
            c.due(x, "1 read " + t, x.read(t, 0), -1, 2);
        }
        c.due(x, "1 live", x.live(0), -1, 6);
        c.due(x, "1 mean", x.mean(0, 1), false, 6);
        c.due(x, "1 lived", x.lived(0), -1, 6);
        c.due(x, "1 undo", x.undo(), -1, 6);
        c.due(x, "1 sloth", x.sloth(0), false, 1);
    }

    private static void statusAndFraction() {
        IslandCall x = new IslandCall();
        x.told(9);
        c.due("2 status", x.status(), 1);
        x.feed(0, 0, 0, 0, 0);
        x.fault(0);
        x.fault(7);
        x.top();
        x.bottom();
        c.due("2 status is of the latest call that has one", x.status(), 1);
        x.told(0);
        c.due("2 status", x.status(), 0);
        x.tides(1, 1);
        c.due("3 top", x.top(), 3);
        c.due("4 bottom", x.bottom(), 4);
        x.tides(13, 1);
        x.sloth(0);
        c.due("3 top stays", x.top(), 3);
        c.due("4 bottom stays", x.bottom(), 4);
        x.tides(1, 2);
        c.due("3 top of 0", x.top(), 0);
        c.due("4 bottom of 0", x.bottom(), 1);
    }

    private static void trays() {
        IslandCall x = new IslandCall();
        int[][] wrong = {{-1, 0, 0}, {4, 0, 0}, {0, -1, 0}, {0, 4, 0}, {0, 0, -1}, {0, 0, 61}};
        for (int[] w : wrong) {
            c.due(x, "5 tray", x.tray(w[0], w[1], w[2]), false, 1);
        }
        c.due(x, "5 tray of 60", x.tray(0, 0, 60), true, 0);
        c.due(x, "5 tray of 0", x.tray(3, 3, 0), true, 0);
        c.due(x, "7 read of an empty one", x.read(3, 0), -1, 3);
        for (int sort = 0; sort < 4; sort++) {
            x.tray(sort, sort, 2);
            c.due(x, "6 write", x.write(sort, 1, 0x8182838485868788L), true, 0);
        }
        c.due(x, "6 8 bits", x.read(0, 1), (byte) 0x88, 0);
        c.due(x, "6 16 bits", x.read(1, 1), (short) 0x8788, 0);
        c.due(x, "6 32 bits", x.read(2, 1), 0x85868788, 0);
        c.due(x, "6 64 bits", x.read(3, 1), 0x8182838485868788L, 0);
        c.due(x, "6 the other place", x.read(3, 0), 0, 0);
        x.write(0, 0, -1);
        c.due(x, "7 -1", x.read(0, 0), -1, 0);
        c.due(x, "7 no place", x.read(0, 2), -1, 3);
        c.due(x, "7 below 0", x.read(0, -1), -1, 3);
        c.due(x, "7 no tray", x.read(4, 0), -1, 1);
        c.due(x, "6 no place", x.write(0, 2, 0), false, 3);
        c.due(x, "6 below 0", x.write(0, Integer.MIN_VALUE, 0), false, 3);
        c.due(x, "6 no tray", x.write(-1, 0, 0), false, 1);
        x.tray(0, 0, 2);
        c.due(x, "5 a new row is of 0s", x.read(0, 0), 0, 0);
        c.due(x, "5 a refused one changes nothing", x.tray(1, 4, 0), false, 1);
        c.due(x, "5 it is there", x.read(1, 1), (short) 0x8788, 0);
        IslandCall y = new IslandCall();
        c.due(y, "6 missing", y.write(0, 0, 0), false, 2);
    }

    private static void pour() {
        IslandCall x = new IslandCall();
        c.due(x, "8 missing", x.pour(0, 0, 1, 0, 0), false, 2);
        x.tray(0, 2, 5);
        x.tray(1, 2, 3);
        x.tray(2, 1, 3);
        for (int i = 0; i < 5; i++) {
            x.write(0, i, 10 + i);
        }
        c.due(x, "8 to another", x.pour(0, 1, 1, 0, 3), true, 0);
        c.due(x, "8 first", x.read(1, 0), 11, 0);
        c.due(x, "8 last", x.read(1, 2), 13, 0);
        c.due(x, "8 to itself, forth", x.pour(0, 0, 0, 1, 4), true, 0);
        c.due(x, "8 as they were", x.read(0, 4), 13, 0);
        c.due(x, "8 as they were", x.read(0, 1), 10, 0);
        c.due(x, "8 to itself, back", x.pour(0, 1, 0, 0, 4), true, 0);
        c.due(x, "8 as they were", x.read(0, 0), 10, 0);
        c.due(x, "8 as they were", x.read(0, 3), 13, 0);
        c.due(x, "8 none at the end", x.pour(0, 5, 1, 3, 0), true, 0);
        c.due(x, "8 too far", x.pour(0, 3, 1, 0, 3), false, 3);
        c.due(x, "8 too far there", x.pour(0, 0, 1, 1, 3), false, 3);
        c.due(x, "8 none beyond the end", x.pour(0, 6, 1, 0, 0), false, 3);
        c.due(x, "8 great", x.pour(0, Integer.MAX_VALUE, 1, 0, Integer.MAX_VALUE), false, 3);
        c.due(x, "8 great there", x.pour(0, 0, 1, Integer.MAX_VALUE, 1), false, 3);
        c.due(x, "8 unlike ahead of too far", x.pour(0, 9, 2, 0, 9), false, 8);
        c.due(x, "8 missing ahead of unlike", x.pour(2, 9, 3, 0, 9), false, 2);
        c.due(x, "8 below 0 ahead of missing", x.pour(3, 0, 3, 0, -1), false, 1);
        c.due(x, "8 place below 0", x.pour(0, -1, 1, 0, 1), false, 1);
        c.due(x, "8 at below 0", x.pour(0, 0, 1, -1, 1), false, 1);
        c.due(x, "8 no tray", x.pour(4, 0, 1, 0, 1), false, 1);
        c.due(x, "8 to no tray", x.pour(0, 0, -1, 0, 1), false, 1);
    }

    private static void feed() {
        IslandCall x = new IslandCall();
        for (int i = 1; i <= 45; i++) {
            c.due("9 feed", x.feed(0x20202020, 0x20202020, 0x20202020, 0x20202020, 0x20202020), 20 * i);
        }
        c.due("9 one too many", x.feed(0, 0, 0, 0, 0), -1);
        c.due("9 no status", x.status(), 0);
        c.due(x, "10 more than the tape has", x.boat(901), -1, 1);
        c.due(x, "10 below 0", x.boat(-1), -1, 1);
        c.due(x, "11 above 300", x.years(301), -1, 1);
        c.due("9 the tape stays with 1", x.feed(0, 0, 0, 0, 0), -1);
        c.due(x, "10 nothing but blanks", x.boat(900), 0, 0);
        c.due("9 the tape is empty", x.feed(0, 0, 0, 0, 0), 20);
        c.due(x, "10 the first bytes alone", x.boat(0), 0, 0);
        // "habi" "t3;p" "lank" "9;xx" "xxxx": the highest byte comes first.
        x.feed(0x68616269, 0x74333b70, 0x6c616e6b, 0x393b7878, 0x78787878);
        c.due(x, "9 the highest first", x.boat(14), 0, 0);
        c.due("9 habit", x.told(3), 3);
        c.due("9 plank", x.told(2), 9);
        Check.feed(x, "plank 12;");
        c.due(x, "10 a number ends with the text", x.boat(7), -1, 9);
        c.due("10 at the end", x.fault(0) * 10 + x.fault(1), 27);
        Check.feed(x, "plank 3;personp");
        c.due(x, "10 a word ends with the text", x.boat(14), -1, 9);
        c.due("10 at the end", x.fault(0) * 100 + x.fault(1), 214);
        c.due("9 a high byte is none below 0", Check.boat(x, "" + (char) 200), -1);
        c.due("9 its fault", x.fault(0), 1);
    }

    private static void boatTaken() {
        IslandCall x = new IslandCall();
        c.due(x, "10 people", Check.boat(x, CHAIN), 5, 0);
        c.due("10 omens", x.told(0), 2);
        c.due("10 out", x.told(6), 15);
        c.due("10 excused", x.person(1, 4), 3);
        c.due("10 whom dov sees", x.person(3, 5), 20);
        x.call();
        x.live(1);
        Check.years(x, "call;");
        c.due(x, "10 a new one", Check.boat(x, "person p holds 3;"), 1, 0);
        c.due("10 no call", x.told(5), 0);
        c.due("10 nobody sat", x.told(8), 0);
        c.due("10 plank 4 again", x.told(2), 4);
        c.due("10 habit 1 again", x.told(3), 1);
        c.due("10 odds 12 again", x.told(4), 12);
        c.due("10 no omens", x.told(0), 0);
        c.due("10 nothing shown", x.told(7), 0);
        c.due(x, "10 no years", x.live(0), -1, 6);
        c.due(x, "10 a fault", Check.boat(x, "person q holds 1; person"), -1, 9);
        c.due("10 the old one stays", x.person(0, 0), 3);
        c.due("10 the tape is empty", x.feed(0, 0, 0, 0, 0), 20);
        x.boat(0);
        String close = "plank9habit0odds16sign a pulls5shown;";
        c.due(x, "10 a sign is missing", Check.boat(x, close), -1, 9);
        c.due("10 where habit stands", x.fault(1), 6);
        c.due(x, "10 tokens need no blanks", Check.boat(x, "plank9;habit0;odds16;sign a pulls5shown;person p holds9out against a;"), 1, 0);
        c.due("10 plank", x.told(2), 9);
        c.due("10 odds", x.told(4), 16);
        c.due("10 shown", x.told(7), 1);
        c.due("10 out", x.told(6), 0);
        c.due("10 against", x.person(0, 4), 1);
        c.due(x, "10 blanks", Check.boat(x, "\n\n plank \n 0001 \n;  person abcdefgh holds 0 against ; "), 1, 0);
        c.due("10 leading 0s", x.told(2), 1);
        c.due(x, "10 blind told again", Check.boat(x, "person p holds 1;person q holds 1;blind p q;blind p q;"), 2, 0);
        c.due("10 p sees none", x.person(0, 5), 0);
        c.due("10 q sees p", x.person(1, 5), 1);
        StringBuilder full = new StringBuilder();
        for (int i = 0; i < 6; i++) {
            full.append("sign ").append((char) ('a' + i)).append(" pulls 1;");
        }
        for (int i = 0; i < 8; i++) {
            full.append("person ").append((char) ('p' + i)).append(" holds 1 against a b c d e f;");
        }
        c.due(x, "10 six signs, eight people", Check.boat(x, full.toString()), 8, 0);
        c.due("10 all against", x.omen(5, 2), 255);
    }

    private static void faultOf(String text, int kind, int place) {
        IslandCall x = new IslandCall();
        c.due(x, "10 " + text, Check.boat(x, text), -1, 9);
        c.due("10 kind of " + text, x.fault(0), kind);
        c.due("10 place of " + text, x.fault(1), place);
    }

    private static void boatFaults() {
        faultOf("plank 3; Plank", 1, 9);
        faultOf("plank\t3;", 1, 5);
        faultOf("plank 00001;", 1, 6);
        faultOf("12345", 1, 0);
        faultOf("1234", 2, 0);
        faultOf("plank", 2, 5);
        faultOf("plank 3", 2, 7);
        faultOf("plank ;", 2, 6);
        faultOf("plank x;", 2, 6);
        faultOf("call;", 2, 0);
        faultOf("xyz;", 2, 0);
        faultOf("; ;", 2, 0);
        faultOf("plank 3; <", 2, 9);
        faultOf("plank 0;", 4, 6);
        faultOf("plank 10;", 4, 6);
        faultOf("habit 4;", 4, 6);
        faultOf("odds 17;", 4, 5);
        faultOf("plank 10 10", 4, 6);
        faultOf("plank 1;plank", 5, 8);
        faultOf("habit 1;odds 1;habit", 5, 15);
        faultOf("odds 1;odds", 5, 7);
        faultOf("sign sign", 2, 5);
        faultOf("sign abcdefghi pulls 1;", 2, 5);
        faultOf("sign a 1", 2, 7);
        faultOf("sign a pulls 0;", 4, 13);
        faultOf("sign a pulls 6;", 4, 13);
        faultOf("sign a pulls 1 hidden;", 2, 15);
        faultOf("sign a pulls 1 shown shown;", 2, 21);
        faultOf("sign a pulls 1;sign a", 3, 20);
        faultOf("sign a pulls 1;person a", 3, 22);
        faultOf("person a holds 1;sign a", 3, 22);
        faultOf("person a holds 10;", 4, 15);
        faultOf("person a holds 1 against b;", 3, 25);
        faultOf("person a holds 1 against a;", 3, 25);
        faultOf("sign s pulls 1;person a holds 1 against s s;", 5, 42);
        faultOf("person a holds 1 against out;", 2, 25);
        faultOf("person a holds 1 against abcdefghi;", 2, 25);
        faultOf("person a holds 1 against 1;", 2, 25);
        faultOf("person a holds 1 against out", 2, 25);
        faultOf("sign s pulls 1;person a holds 1 against s out;", 2, 42);
        faultOf("person a holds 1 out out;", 2, 21);
        faultOf("person a holds 1 shown;", 2, 17);
        faultOf("sign s pulls 1;blind s", 3, 21);
        faultOf("person a holds 1;blind a b", 3, 25);
        faultOf("person a holds 1;blind a a", 5, 25);
        faultOf("person a holds 1;person b holds 1;blind a b b;", 2, 44);
        StringBuilder signs = new StringBuilder();
        for (int i = 0; i < 6; i++) {
            signs.append("sign ").append((char) ('a' + i)).append(" pulls 1;");
        }
        faultOf(signs + "sign sign", 6, 90);
        StringBuilder people = new StringBuilder();
        for (int i = 0; i < 8; i++) {
            people.append("person ").append((char) ('a' + i)).append(" holds 1;");
        }
        faultOf(people + "person", 6, 136);
    }

    private static void yearsFault(String text, int kind, int place) {
        IslandCall x = Check.withBoat("sign s pulls 1; person p holds 1;");
        c.due(x, "11 " + text, Check.years(x, text), -1, 9);
        c.due("11 kind of " + text, x.fault(0), kind);
        c.due("11 place of " + text, x.fault(1), place);
        c.due(x, "11 there are none", x.live(0), -1, 6);
    }

    private static void yearsFaults() {
        IslandCall x = Check.withBoat("sign s pulls 1; person p holds 1;");
        c.due(x, "11 none", x.years(0), 0, 0);
        c.due(x, "56 years of no step", x.live(0), 0, 0);
        c.due(x, "11 steps", Check.years(x, "call;show s;hide s;board p;sway p 0;any;when out p;stop;end;"
                + "loop 99;when shows s;when holds p<9;end;end;end;when holds p > 0;end;when holds p = 0;end;"), 13, 0);
        yearsFault("call", 2, 4);
        yearsFault("call; plank", 2, 6);
        yearsFault("shows s;", 2, 0);
        yearsFault("end;", 2, 0);
        yearsFault("loop 1;end;end;", 2, 11);
        yearsFault("loop 1;end", 2, 10);
        yearsFault("loop 1;", 2, 7);
        yearsFault("when out p;call;", 2, 16);
        yearsFault("when p", 2, 5);
        yearsFault("when holds p 1", 2, 13);
        yearsFault("when holds p ;", 2, 13);
        yearsFault("when holds p < <", 2, 15);
        yearsFault("show p", 3, 5);
        yearsFault("hide x", 3, 5);
        yearsFault("when shows p", 3, 11);
        yearsFault("board s", 3, 6);
        yearsFault("sway s 1", 3, 5);
        yearsFault("when out s", 3, 9);
        yearsFault("when holds s", 3, 11);
        yearsFault("show abcdefghi", 2, 5);
        yearsFault("show call", 2, 5);
        yearsFault("sway p 10;", 4, 7);
        yearsFault("loop 0;", 4, 5);
        yearsFault("loop 100;", 4, 5);
        yearsFault("when holds p = 10;", 4, 15);
        yearsFault("loop 12345;", 1, 5);
        yearsFault("call;?", 1, 5);
        String thirty = "any;".repeat(30);
        yearsFault(thirty + "call", 6, 120);
        yearsFault(thirty + "loop 1", 6, 120);
        yearsFault(thirty + "end", 2, 120);
        yearsFault(thirty + "sign", 2, 120);
        yearsFault("loop 1;loop 1;loop 1;loop 0;", 7, 21);
        yearsFault("loop 1;when out p;loop 1;when", 7, 25);
        yearsFault("loop 1;loop 1;loop 1;" + "any;".repeat(27) + "loop", 6, 129);
        c.due(x, "11 thirty steps", Check.years(x, thirty), 30, 0);
        c.due(x, "11 three within", Check.years(x, "loop 1;loop 1;loop 1;call;end;end;end;loop 1;end;"), 5, 0);
        c.due(x, "11 a fault", Check.years(x, "call"), -1, 9);
        c.due(x, "11 the old ones stay", x.live(0), 5, 0);
        String long300 = " ".repeat(295) + "call;";
        c.due(x, "11 300 bytes", Check.years(x, long300), 1, 0);
        Check.feed(x, " " + long300);
        c.due(x, "11 301 bytes", x.years(301), -1, 1);
        c.due(x, "11 the tape stays", x.years(300), -1, 9);
        c.due("11 at the end", x.fault(1), 300);
    }

    private static void faultTells() {
        IslandCall x = new IslandCall();
        Check.boat(x, "x");
        c.due("12 kind", x.fault(0), 2);
        c.due("12 place", x.fault(1), 0);
        c.due("12 another", x.fault(2), -1);
        c.due("12 below 0", x.fault(-1), -1);
        x.boat(5);
        x.years(-1);
        c.due("12 kind stays with status 1", x.fault(0), 2);
        x.years(0);
        c.due("12 kind without one", x.fault(0), 0);
        c.due("12 place without one", x.fault(1), -1);
    }

    private static void told() {
        IslandCall x = Check.withBoat(CHAIN);
        int[] all = {2, 5, 2, 2, 8, 0, 15, 2, 0};
        for (int what = 0; what < all.length; what++) {
            c.due(x, "13 told " + what, x.told(what), all[what], 0);
        }
        c.due(x, "13 told 9", x.told(9), -1, 1);
        c.due(x, "13 told -1", x.told(-1), -1, 1);
        c.due(x, "14 pull", x.omen(1, 0), 3, 0);
        c.due(x, "14 hidden", x.omen(0, 1), 0, 0);
        c.due(x, "14 shown", x.omen(1, 1), 1, 0);
        c.due(x, "14 excused from a", x.omen(0, 2), 14, 0);
        c.due(x, "14 excused from b", x.omen(1, 2), 7, 0);
        c.due(x, "14 what", x.omen(1, 3), -1, 1);
        c.due(x, "14 what", x.omen(1, -1), -1, 1);
        c.due(x, "14 no omen", x.omen(2, 0), -1, 1);
        c.due(x, "14 no omen", x.omen(-1, 0), -1, 1);
        int[] dov = {4, 1, 1, 0, 1, 20, 23};
        for (int what = 0; what < dov.length; what++) {
            c.due(x, "15 dov " + what, x.person(3, what), dov[what], 0);
        }
        int[] eve = {9, 6, 0, 0, 0, 15, 15};
        for (int what = 0; what < eve.length; what++) {
            c.due(x, "15 eve " + what, x.person(4, what), eve[what], 0);
        }
        c.due("15 who sees ann", x.person(0, 6), 22);
        c.due(x, "15 what", x.person(0, 7), -1, 1);
        c.due(x, "15 what", x.person(0, -1), -1, 1);
        c.due(x, "15 nobody", x.person(5, 0), -1, 1);
        c.due(x, "15 nobody", x.person(-1, 0), -1, 1);
    }

    private static void calls() {
        IslandCall x = Check.withBoat(CHAIN);
        c.due(x, "16 nobody rises by b", x.call(), 0, 0);
        c.due("16 habit: ann", x.person(0, 0), 3);
        c.due("16 habit: dov", x.person(3, 0), 6);
        c.due("16 who is out holds as ever", x.person(4, 0), 9);
        c.due("16 ann sat", x.person(0, 3), 1);
        c.due("16 eve did not", x.person(4, 3), 0);
        c.due("16 calls", x.told(5), 1);
        c.due("13 in all", x.told(8), 4);
        x = Check.withBoat(CHAIN);
        x.show(0, true);
        c.due(x, "16 the plank is out for two rounds: ann, ben", x.call(), 3, 0);
        c.due("16 on board", x.told(6), 12);
        c.due("16 ann holds as ever", x.person(0, 0), 1);
        c.due("16 ann did not sit", x.person(0, 3), 0);
        c.due("16 cis holds more", x.person(2, 0), 4);
        x.rule(3, 3);
        x.call();
        x.call();
        c.due("16 nine at most", x.person(2, 0), 9);
        c.due("16 she sat", x.person(2, 3), 3);
        x = Check.withBoat(CHAIN);
        x.show(0, true);
        x.rule(2, 3);
        c.due(x, "16 by three rounds cis too, and dov not", x.call(), 7, 0);
        // All rise at once: in round 1 nobody was up ahead of it, though p would be enough for q.
        x = Check.withBoat("plank 1;person p holds 0;person q holds 1;");
        c.due(x, "16 at once", x.call(), 1, 0);
        // Who is out is not counted among those who are up.
        x = Check.withBoat("person p holds 0 out;person q holds 1;");
        c.due(x, "16 those on board alone", x.call(), 0, 0);
        x = Check.withBoat("plank 9;habit 0;person p holds 0;person q holds 1;person r holds 2;person s holds 3;"
                + "person t holds 4;person u holds 5;person v holds 6;person w holds 7;");
        c.due(x, "16 eight rounds", x.call(), 255, 0);
        c.due(x, "16 an empty boat is called too", x.call(), 0, 0);
        c.due("16 two calls", x.told(5), 2);
    }

    private static void callsNearTheLast() {
        IslandCall x = Check.withBoat("habit 0;odds 16;person p holds 1;person q holds 0 out;");
        Check.years(x, "loop 99;call;call;call;end;");
        for (int i = 0; i < 33; i++) {
            x.live(0);
        }
        c.due("16 297 each", x.told(5), 33 * 297);
        while (x.told(5) < 9999 - 2) {
            x.call();
        }
        Check.years(x, "call;call;call;any;board q;");
        c.due(x, "56 beyond the last", x.live(7), 5, 0);
        c.due("57 missed", x.lived(0), 2);
        c.due("57 calls", x.lived(1), 2);
        c.due("16 9,999", x.told(5), 9999);
        c.due("16 p sat", x.person(0, 3), 9999);
        c.due(x, "16 no more", x.call(), -1, 4);
        c.due("16 nothing is changed", x.told(6), 3);
        c.due("13 sat in all", x.told(8), 9999);
        c.due(x, "42 the 9,999th does not matter", x.outIn(1), 3, 0);
        c.due(x, "43 the 9,999th does not matter", x.outAt(0), 1, 0);
        c.due("42 nothing is changed", x.told(5), 9999);
        c.due(x, "54 sloth", x.sloth(0), true, 0);
        c.due("54 always", x.top(), 1);
        c.due("54 always", x.bottom(), 1);
    }

    private static void changes() {
        IslandCall x = Check.withBoat(CHAIN);
        c.due(x, "17 show", x.show(0, true), true, 0);
        c.due(x, "17 it is so", x.show(0, true), false, 7);
        c.due(x, "17 hide", x.show(1, false), true, 0);
        c.due(x, "17 it is so", x.show(1, false), false, 7);
        c.due("17 shown", x.told(7), 1);
        c.due(x, "17 none", x.show(2, true), false, 1);
        c.due(x, "17 none", x.show(-1, false), false, 1);
        c.due(x, "18 eve", x.board(4), 5, 0);
        c.due(x, "18 she is", x.board(4), -1, 7);
        c.due("18 her hold stays", x.person(4, 0), 9);
        c.due(x, "18 nobody", x.board(5), -1, 1);
        c.due(x, "18 nobody", x.board(-1), -1, 1);
        c.due(x, "19 sway", x.sway(4, 0), true, 0);
        c.due("19 so", x.person(4, 0), 0);
        c.due(x, "19 what is so", x.sway(4, 0), true, 0);
        c.due(x, "19 nine", x.sway(4, 9), true, 0);
        c.due(x, "19 ten", x.sway(4, 10), false, 1);
        c.due(x, "19 below 0", x.sway(4, -1), false, 1);
        c.due(x, "19 nobody", x.sway(5, 1), false, 1);
        c.due("19 nine stays", x.person(4, 0), 9);
        c.due(x, "20 excuse", x.excuse(4, 1, true), true, 0);
        c.due(x, "20 it is so", x.excuse(4, 1, true), false, 7);
        c.due("20 so", x.person(4, 4), 2);
        c.due(x, "20 no more", x.excuse(4, 1, false), true, 0);
        c.due(x, "20 it is so", x.excuse(4, 1, false), false, 7);
        c.due(x, "20 nobody", x.excuse(5, 0, true), false, 1);
        c.due(x, "20 no omen", x.excuse(0, 2, true), false, 1);
        c.due(x, "21 dov sees ann", x.see(3, 0, true), true, 0);
        c.due(x, "21 it is so", x.see(3, 0, true), false, 7);
        c.due("21 so", x.person(3, 5), 21);
        c.due(x, "21 ann is blind to dov", x.see(0, 3, false), true, 0);
        c.due(x, "21 it is so", x.see(0, 3, false), false, 7);
        c.due("21 not the other way", x.person(3, 5), 21);
        c.due(x, "21 himself", x.see(3, 3, true), false, 1);
        c.due(x, "21 nobody", x.see(3, 5, true), false, 1);
        c.due(x, "21 nobody", x.see(-1, 3, true), false, 1);
        c.due(x, "22 paint", x.paint(1, 5), true, 0);
        c.due("22 so", x.omen(1, 0), 5);
        c.due(x, "22 six", x.paint(1, 6), false, 1);
        c.due(x, "22 nothing", x.paint(1, 0), false, 1);
        c.due(x, "22 none", x.paint(2, 1), false, 1);
        c.due(x, "22 one", x.paint(1, 1), true, 0);
        comeAndRule(x);
    }

    private static void comeAndRule(IslandCall x) {
        c.due(x, "23 come", x.come(9), 5, 0);
        c.due("23 whom he sees", x.person(5, 5), 31);
        c.due("23 who sees him", x.person(5, 6), 31);
        c.due("23 hold", x.person(5, 0), 9);
        c.due("23 on board", x.person(5, 2), 1);
        c.due("23 excused from nothing", x.person(5, 4), 0);
        c.due(x, "23 he has no name", Check.years(x, "board a;"), -1, 9);
        c.due("23 an omen has that one", x.fault(0), 3);
        c.due(x, "23 ten", x.come(10), -1, 1);
        c.due(x, "23 below 0", x.come(-1), -1, 1);
        c.due(x, "23 seventh", x.come(0), 6, 0);
        c.due(x, "23 eighth", x.come(0), 7, 0);
        c.due(x, "23 ninth", x.come(0), -1, 4);
        c.due(x, "23 ninth by what can't be", x.come(10), -1, 1);
        c.due(x, "24 plank", x.rule(2, 9), true, 0);
        c.due(x, "24 plank", x.rule(2, 10), false, 1);
        c.due(x, "24 plank", x.rule(2, 0), false, 1);
        c.due("24 plank", x.told(2), 9);
        c.due(x, "24 habit", x.rule(3, 0), true, 0);
        c.due(x, "24 habit", x.rule(3, 4), false, 1);
        c.due(x, "24 habit", x.rule(3, -1), false, 1);
        c.due("24 habit", x.told(3), 0);
        c.due(x, "24 odds", x.rule(4, 16), true, 0);
        c.due(x, "24 odds", x.rule(4, 17), false, 1);
        c.due(x, "24 odds", x.rule(4, -1), false, 1);
        c.due("24 odds", x.told(4), 16);
        c.due(x, "24 what", x.rule(1, 1), false, 1);
        c.due(x, "24 what", x.rule(5, 1), false, 1);
    }

    private static void needsAndRounds() {
        IslandCall x = Check.withBoat(CHAIN);
        c.due(x, "25 dov by both", x.need(3, 3), 1, 0);
        c.due(x, "25 dov by none", x.need(3, 0), 4, 0);
        c.due(x, "25 eve, who is out", x.need(4, 3), 5, 0);
        c.due(x, "25 0 at least", x.need(0, 1), 0, 0);
        c.due(x, "25 a set", x.need(0, 4), -1, 1);
        c.due(x, "25 a set", x.need(0, -1), -1, 1);
        c.due(x, "25 nobody", x.need(5, 0), -1, 1);
        c.due(x, "26 ann", x.roundOf(0, 1), 1, 0);
        c.due(x, "26 ben", x.roundOf(1, 1), 2, 0);
        c.due(x, "26 cis, behind the plank", x.roundOf(2, 1), 3, 0);
        c.due(x, "26 dov in none", x.roundOf(3, 1), -1, 6);
        c.due(x, "26 dov by both, behind cis", x.roundOf(3, 3), 4, 0);
        c.due(x, "26 eve", x.roundOf(4, 1), -1, 7);
        c.due(x, "26 nobody", x.roundOf(5, 1), -1, 1);
        c.due(x, "26 a set", x.roundOf(4, 4), -1, 1);
        c.due(x, "27 out by a", x.outBy(1), 3, 0);
        c.due(x, "27 out by none", x.outBy(0), 0, 0);
        c.due(x, "27 a set", x.outBy(4), -1, 1);
        c.due(x, "28 rest by a", x.restBy(1), 7, 0);
        c.due(x, "28 rest by both", x.restBy(3), 15, 0);
        c.due(x, "28 a set", x.restBy(-1), -1, 1);
        c.due(x, "29 rounds by a", x.rounds(1), 3, 0);
        c.due(x, "29 rounds by both", x.rounds(3), 4, 0);
        c.due(x, "29 rounds by none", x.rounds(0), 0, 0);
        c.due(x, "29 a set", x.rounds(4), -1, 1);
        c.due("27 nothing is changed", x.told(5) + x.told(8), 0);
    }

    private static void rests() {
        // Two who wait for each other, and one who never rises.
        IslandCall x = Check.withBoat("sign s pulls 1;person p holds 1;person q holds 1;person r holds 9;person o holds 0 out;");
        c.due(x, "30 nobody", x.atRest(0, 0), 1, 0);
        c.due(x, "30 both", x.atRest(3, 0), 1, 0);
        c.due(x, "30 one", x.atRest(1, 0), 0, 0);
        c.due(x, "30 all", x.atRest(7, 0), 0, 0);
        c.due(x, "30 one is out", x.atRest(11, 0), -1, 7);
        c.due(x, "30 there is none", x.atRest(16, 0), -1, 1);
        c.due(x, "30 below 0", x.atRest(-1, 0), -1, 1);
        c.due(x, "30 a set ahead of out", x.atRest(8, 2), -1, 1);
        c.due(x, "31 two", x.rests(0), 2, 0);
        c.due(x, "31 one", x.rests(1), 1, 0);
        c.due(x, "31 a set", x.rests(2), -1, 1);
        c.due(x, "32 both", x.greatest(0), 3, 0);
        c.due(x, "32 a set", x.greatest(2), -1, 1);
        x.sway(2, 2);
        c.due(x, "31 with r", x.rests(0), 2, 0);
        c.due(x, "32 with r", x.greatest(0), 7, 0);
        x.see(2, 0, false);
        c.due(x, "32 r sees too few", x.greatest(0), 3, 0);
        c.due(x, "30 who sits must see fewer", x.atRest(0, 1), 0, 0);
    }

    private static void seedsAndWeights() {
        IslandCall x = Check.withBoat("plank 9;person p holds 1;person q holds 1;person r holds 2;person s holds 3;person o holds 9 out;");
        c.due(x, "33 one", x.seeds(0), 1, 0);
        c.due(x, "34 the least of several", x.seedSet(0), 1, 0);
        x.see(1, 0, false);
        c.due(x, "34 q does not see p", x.seedSet(0), 2, 0);
        x.sway(3, 9);
        x.sway(2, 9);
        c.due(x, "33 s, r and one", x.seeds(0), 2, 0);
        c.due(x, "34 r and s alone are enough for p and q", x.seedSet(0), 12, 0);
        c.due(x, "33 a set", x.seeds(1), -1, 1);
        c.due(x, "34 a set", x.seedSet(-1), -1, 1);
        for (int p = 0; p < 4; p++) {
            x.sway(p, p);
        }
        x.see(1, 0, true);
        c.due(x, "33 none is needed", x.seeds(0), 0, 0);
        c.due(x, "34 none is needed", x.seedSet(0), 0, 0);
        c.due(x, "35 all hangs on p", x.weight(0, 0), 3, 0);
        c.due(x, "35 on q hang two", x.weight(1, 0), 2, 0);
        c.due(x, "35 on s none", x.weight(3, 0), 0, 0);
        c.due(x, "35 out", x.weight(4, 0), -1, 7);
        c.due(x, "35 nobody", x.weight(5, 0), -1, 1);
        c.due(x, "35 a set", x.weight(4, 1), -1, 1);
        c.due(x, "36 p", x.keystone(0), 0, 0);
        x.rule(2, 2);
        c.due(x, "35 by the plank", x.weight(0, 0), 1, 0);
        c.due(x, "36 the first of several", x.keystone(0), 0, 0);
        x.sway(0, 9);
        x.sway(3, 0);
        c.due(x, "36 another", x.keystone(0), 3, 0);
        c.due(x, "36 a set", x.keystone(1), -1, 1);
        IslandCall y = Check.withBoat("person p holds 0 out;");
        c.due(y, "36 nobody is on board", y.keystone(0), -1, 6);
        c.due(y, "33 nobody is on board", y.seeds(0), 0, 0);
        c.due(y, "36 a set ahead of it", y.keystone(1), -1, 1);
    }

    private static void luresAndBest() {
        IslandCall x = Check.withBoat(CHAIN);
        c.due(x, "37 ann", x.lures(0), 1, 0);
        c.due(x, "38 ann", x.lureSet(0), 1, 0);
        c.due(x, "37 ben", x.lures(1), 1, 0);
        c.due(x, "38 ben, behind ann", x.lureSet(1), 1, 0);
        c.due(x, "37 cis by none: the plank", x.lures(2), -1, 6);
        c.due(x, "38 cis by none: the plank", x.lureSet(2), -1, 6);
        c.due(x, "37 eve", x.lures(4), -1, 7);
        c.due(x, "38 eve", x.lureSet(4), -1, 7);
        c.due(x, "37 nobody", x.lures(5), -1, 1);
        c.due(x, "38 nobody", x.lureSet(-1), -1, 1);
        c.due(x, "39 best", x.best(), 1, 0);
        c.due(x, "40 two", x.bestOut(), 2, 0);
        c.due(x, "41 cis, dov", x.never(), 12, 0);
        x.rule(2, 9);
        c.due(x, "38 dov", x.lureSet(3), 3, 0);
        c.due(x, "37 dov", x.lures(3), 2, 0);
        c.due(x, "39 all", x.best(), 3, 0);
        c.due(x, "40 all", x.bestOut(), 4, 0);
        c.due(x, "41 none", x.never(), 0, 0);
        // The fewest come first, then the least as a number.
        IslandCall y = Check.withBoat("sign a pulls 1;sign b pulls 1;sign d pulls 2;person p holds 2;");
        c.due(y, "38 one omen, though 3 is less than 4", y.lureSet(0), 4, 0);
        c.due(y, "39 likewise", y.best(), 4, 0);
        y.sway(0, 3);
        c.due(y, "38 two, the least", y.lureSet(0), 5, 0);
        c.due(y, "39 two, the least", y.best(), 5, 0);
        y.sway(0, 0);
        c.due(y, "37 none is needed", y.lures(0), 0, 0);
        c.due(y, "39 none is needed", y.best(), 0, 0);
        y.sway(0, 9);
        c.due(y, "39 nobody by any", y.best(), 0, 0);
        c.due(y, "40 nobody by any", y.bestOut(), 0, 0);
        c.due(y, "41 nobody by any", y.never(), 1, 0);
    }

    private static void ahead() {
        // By a hold of 0 p goes; q waits for two, and holds more each time.
        IslandCall x = Check.withBoat("habit 2;person p holds 0;person q holds 2;person r holds 3 out;");
        c.due(x, "42 none yet", x.outIn(0), 4, 0);
        c.due(x, "42 p", x.outIn(1), 5, 0);
        c.due(x, "42 p for good", x.outIn(60), 5, 0);
        c.due(x, "42 too many", x.outIn(61), -1, 1);
        c.due(x, "42 below 0", x.outIn(-1), -1, 1);
        c.due(x, "43 p", x.outAt(0), 1, 0);
        c.due(x, "43 q", x.outAt(1), -1, 6);
        c.due(x, "43 r", x.outAt(2), -1, 7);
        c.due(x, "43 nobody", x.outAt(3), -1, 1);
        c.due(x, "44 now", x.holdIn(1, 0), 2, 0);
        c.due(x, "44 one", x.holdIn(1, 1), 4, 0);
        c.due(x, "44 three", x.holdIn(1, 3), 8, 0);
        c.due(x, "44 sixty", x.holdIn(1, 60), 9, 0);
        c.due(x, "44 who gets out", x.holdIn(0, 60), 0, 0);
        c.due(x, "44 who is out", x.holdIn(2, 60), 3, 0);
        c.due(x, "44 nobody", x.holdIn(3, 1), -1, 1);
        c.due(x, "44 too many", x.holdIn(1, 61), -1, 1);
        c.due("42 all stays", x.told(5) * 100 + x.told(6), 3);
        // The plank is out for one round: a call lets p out, and then q is alone.
        IslandCall y = Check.withBoat("plank 1;habit 0;sign s pulls 1 shown;person p holds 0;person q holds 1;person r holds 2;");
        c.due(y, "43 with the omens shown now", y.outAt(1), 1, 0);
        y.show(0, false);
        c.due(y, "43 with the omens shown now", y.outAt(1), -1, 6);
    }

    private static void seen() {
        IslandCall x = Check.withBoat("sign a pulls 1;sign b pulls 3;sign d pulls 1;person p holds 5 against d;person q holds 1;"
                + "person r holds 1 out;blind p r;");
        c.due(x, "45 missing", x.fits(0, 0, 0), -1, 2);
        x.tray(0, 3, 6);
        c.due(x, "45 all", x.fits(0, 0, 0), 10, 0);
        // By a and b, as q is up and r whom he does not see, he is up: he holds 5 at most.
        x.write(0, 0, 3);
        x.write(0, 1, 7);
        c.due(x, "45 0 to 5", x.fits(0, 0, 1), 6, 0);
        c.due(x, "46 least", x.fitsAt(0, 0, 1, 0), 0, 0);
        c.due(x, "46 greatest", x.fitsAt(0, 0, 1, 1), 5, 0);
        // By a and d, from which he is excused, as q is up, he sits: he holds 3 or more.
        x.write(0, 2, 5);
        x.write(0, 3, 6);
        c.due(x, "45 3 to 5", x.fits(0, 0, 2), 3, 0);
        c.due(x, "46 least", x.fitsAt(0, 0, 2, 0), 3, 0);
        c.due(x, "46 greatest", x.fitsAt(0, 0, 2, 1), 5, 0);
        c.due(x, "47 by a none of 3, 4, 5 rises, by b 3 alone", x.ask(0, 0, 2), 1, 0);
        c.due(x, "47 of ten by b 0 to 3 rise, by a 0 and 1, by d 0", x.ask(0, 0, 0), 1, 0);
        x.write(0, 4, 0);
        x.write(0, 5, 1);
        c.due(x, "45 none", x.fits(0, 0, 3), 0, 0);
        c.due(x, "46 none", x.fitsAt(0, 0, 3, 0), -1, 6);
        c.due(x, "46 none", x.fitsAt(0, 0, 3, 1), -1, 6);
        c.due(x, "47 none", x.ask(0, 0, 3), -1, 6);
        c.due(x, "45 too few numbers", x.fits(0, 0, 4), -1, 3);
        c.due(x, "45 nobody", x.fits(3, 0, 0), -1, 1);
        c.due(x, "45 no tray", x.fits(0, 4, 0), -1, 1);
        c.due(x, "45 21", x.fits(0, 1, 21), -1, 1);
        c.due(x, "45 -1", x.fits(0, 1, -1), -1, 1);
        c.due(x, "46 what", x.fitsAt(0, 1, 0, 2), -1, 1);
        c.due(x, "46 missing", x.fitsAt(0, 1, 0, 1), -1, 2);
        c.due(x, "47 missing", x.ask(0, 1, 0), -1, 2);
        c.due(x, "47 too few", x.ask(0, 0, 20), -1, 3);
        long[] bad = {-1, 8, 1L << 32, Long.MIN_VALUE};
        for (long v : bad) {
            x.write(0, 2, v);
            c.due(x, "45 omens in the tray", x.fits(0, 0, 2), -1, 5);
            c.due(x, "46 omens in the tray", x.fitsAt(0, 0, 2, 0), -1, 5);
            c.due(x, "47 omens in the tray", x.ask(0, 0, 2), -1, 5);
            c.due(x, "45 behind the first n", x.fits(0, 0, 1), 6, 0);
            x.write(0, 2, 0);
            x.write(0, 3, v);
            c.due(x, "45 people in the tray", x.fits(0, 0, 2), -1, 5);
            x.write(0, 3, 0);
        }
        IslandCall y = Check.withBoat("person p holds 1;");
        y.tray(0, 0, 40);
        c.due(y, "47 no omens", y.ask(0, 0, 0), -1, 6);
        c.due(y, "45 twenty", y.fits(0, 0, 20), 9, 0);
        c.due(y, "46 he sits by nothing", y.fitsAt(0, 0, 20, 0), 1, 0);
    }

    private static void lookouts() {
        IslandCall x = Check.withBoat("person p holds 1;person q holds 1;person r holds 1;person o holds 1 out;");
        c.due(x, "48 one", x.lookouts(), 1, 0);
        c.due(x, "49 p", x.lookoutSet(), 1, 0);
        c.due(x, "50 three", x.couples(), 3, 0);
        x.see(1, 0, false);
        c.due(x, "49 q does not see p", x.lookoutSet(), 2, 0);
        c.due(x, "50 two", x.couples(), 2, 0);
        x.see(2, 1, false);
        c.due(x, "49 r", x.lookoutSet(), 4, 0);
        x.see(0, 2, false);
        c.due(x, "48 two", x.lookouts(), 2, 0);
        c.due(x, "49 p, q", x.lookoutSet(), 3, 0);
        c.due(x, "50 none", x.couples(), 0, 0);
        x.board(3);
        c.due(x, "49 whom all see", x.lookoutSet(), 8, 0);
        c.due(x, "50 with him", x.couples(), 3, 0);
        IslandCall y = Check.withBoat("person p holds 1;person q holds 1;blind p q;blind q p;");
        c.due(y, "48 both", y.lookouts(), 2, 0);
        c.due(y, "49 both", y.lookoutSet(), 3, 0);
    }

    private static void games() {
        // One gets out by a, two by b; the company hides what the captain shows.
        IslandCall x = Check.withBoat("sign a pulls 1;sign b pulls 2;person p holds 1 against b;person q holds 2 against a;"
                + "person r holds 2 against a;blind p q;blind p r;");
        c.due(x, "51 no turn", x.game(0), 0, 0);
        c.due(x, "51 one: b", x.game(1), 2, 0);
        c.due(x, "51 two", x.game(2), 0, 0);
        c.due(x, "51 three", x.game(3), 2, 0);
        c.due(x, "51 four", x.game(4), -1, 1);
        c.due(x, "51 below 0", x.game(-1), -1, 1);
        c.due(x, "52 b", x.moveOf(1), 1, 0);
        c.due(x, "52 of all that are as good the first", x.moveOf(2), 0, 0);
        // The company takes back what is done first, and the last turn is b: two, whatever comes first.
        c.due(x, "52 three", x.moveOf(3), 0, 0);
        c.due(x, "52 no turn", x.moveOf(0), -1, 1);
        c.due(x, "52 four", x.moveOf(4), -1, 1);
        x.show(1, true);
        c.due(x, "51 shown", x.game(0), 2, 0);
        c.due(x, "51 a too", x.game(1), 3, 0);
        c.due(x, "52 a", x.moveOf(1), 0, 0);
        x.show(0, true);
        c.due(x, "51 all are shown", x.game(1), 3, 0);
        c.due(x, "52 none", x.moveOf(1), -1, 6);
        c.due(x, "51 b is hidden", x.game(2), 1, 0);
        c.due("51 all stays", x.told(7), 3);
    }

    private static void odds() {
        IslandCall x = Check.withBoat("odds 8;habit 0;person p holds 1;person q holds 0;");
        c.due(x, "53 two of two", x.tides(2, 2), true, 0);
        c.due("53 top", x.top(), 1);
        c.due("53 bottom", x.bottom(), 4);
        x.tides(3, 2);
        c.due("53 two or more of three", x.top() * 100 + x.bottom(), 102);
        x.tides(0, 0);
        c.due("53 none of none", x.top() * 100 + x.bottom(), 101);
        x.tides(0, 1);
        c.due("53 one of none", x.top() * 100 + x.bottom(), 1);
        x.rule(4, 15);
        x.tides(12, 12);
        c.due("53 15 to the 12th", x.top(), 129746337890625L);
        c.due("53 16 to the 12th", x.bottom(), 1L << 48);
        x.tides(12, 0);
        c.due("53 any", x.top() * 100 + x.bottom(), 101);
        x.rule(4, 0);
        x.tides(5, 1);
        c.due("53 by no odds", x.top() * 100 + x.bottom(), 1);
        x.tides(5, 0);
        c.due("53 none or more", x.top() * 100 + x.bottom(), 101);
        x.rule(4, 16);
        x.tides(5, 5);
        c.due("53 for sure", x.top() * 100 + x.bottom(), 101);
        c.due(x, "53 13", x.tides(13, 0), false, 1);
        c.due(x, "53 13", x.tides(0, 13), false, 1);
        c.due(x, "53 -1", x.tides(-1, 0), false, 1);
        c.due(x, "53 -1", x.tides(0, -1), false, 1);
        c.due(x, "54 no call", x.sloth(0), false, 6);
        c.due(x, "54 nobody", x.sloth(2), false, 1);
        x.rule(2, 1);
        x.call();
        x.board(1);
        x.sway(1, 9);
        x.call();
        c.due(x, "54 p sat twice", x.sloth(0), true, 0);
        c.due("54 of two", x.top() * 100 + x.bottom(), 101);
        c.due(x, "54 q sat once", x.sloth(1), true, 0);
        c.due("54 of two", x.top() * 100 + x.bottom(), 102);
        x.come(0);
        c.due(x, "54 who just came", x.sloth(2), true, 0);
        c.due("54 0 by 1", x.top() * 100 + x.bottom(), 1);
        c.due(x, "55 missing", x.copyHolds(0), -1, 2);
        c.due(x, "55 no tray", x.copyHolds(4), -1, 1);
        x.tray(0, 0, 2);
        c.due(x, "55 too few", x.copyHolds(0), -1, 3);
        x.tray(0, 0, 4);
        x.write(0, 3, 77);
        c.due(x, "55 three", x.copyHolds(0), 3, 0);
        c.due("55 p", x.read(0, 0), 1);
        c.due("55 q", x.read(0, 1), 9);
        c.due("55 r", x.read(0, 2), 0);
        c.due("55 the rest stays", x.read(0, 3), 77);
    }

    private static void livedSteps() {
        IslandCall x = Check.withBoat("habit 2;sign s pulls 1;person p holds 1;person q holds 4;");
        Check.years(x, "call;show s;show s;hide s;hide s;show s;sway p 1;sway p 1;board p;call;board p;board q;");
        c.due(x, "56 all twelve", x.live(0), 12, 0);
        c.due("57 missed: a show, a hide, a sway, board p, board q", x.lived(0), 5);
        c.due("57 calls", x.lived(1), 2);
        c.due("57 p got out", x.lived(2), 1);
        c.due("57 both sat, then q", x.lived(3), 3);
        c.due("57 none is left", x.lived(4), 0);
        c.due("56 all is as it is then", x.told(7) * 1000 + x.told(6) * 100 + x.person(1, 0), 1308);
        c.due("56 calls", x.told(5), 2);
        c.due(x, "57 what", x.lived(5), -1, 1);
        c.due(x, "57 what", x.lived(-1), -1, 1);
        c.due(x, "56 seed", x.live(10000), -1, 1);
        c.due(x, "56 seed", x.live(-1), -1, 1);
        c.due(x, "56 the last seed", x.live(9999), 12, 0);
        x.live(-1);
        c.due("57 of the latest with status 0: s is shown, p holds 1", x.lived(0), 6);
        Check.boat(x, "habit 1;person p holds 0;person q holds 5 out;sign s pulls 1;");
        c.due("57 a new boat leaves what was lived", x.lived(1), 2);
        Check.years(x, "when out q;sway q 6;end;when out p;call;end;when shows s;call;end;show s;when shows s;sway q 7;end;"
                + "when holds q < 7;call;end;when holds q > 7;call;end;when holds q = 7;sway q 0;end;stop;call;");
        c.due(x, "56 when", x.live(0), 12, 0);
        c.due("56 q", x.person(1, 0), 0);
        c.due("57 nothing is missed", x.lived(0), 0);
        c.due("57 no call", x.lived(1), 0);
        c.due("57 behind stop none is left", x.lived(4), 0);
        Check.years(x, "sway q 9;loop 3;call;when holds q = 9;board p;end;loop 2;call;end;end;");
        // sway, loop, 3 times (call, when, board, loop, call, call): p gets out by the very first call, then behind each board.
        c.due(x, "56 loops", x.live(0), 20, 0);
        c.due("57 calls", x.lived(1), 9);
        c.due("57 p four times", x.lived(2), 4);
        c.due("57 nobody sat", x.lived(3), 0);
    }

    private static void livedByDraws() {
        IslandCall x = Check.withBoat("odds 9;habit 0;person p holds 9;");
        Check.years(x, "any;");
        // 0 * 3167 + 11383 = 11383; by 8: 1422; by 16: 14.
        x.live(0);
        c.due("57 a draw of 14 is not below 9", x.lived(0), 1);
        c.due("57 no call", x.lived(1), 0);
        x.rule(4, 15);
        x.live(0);
        c.due("57 a draw of 14 is below 15", x.lived(1), 1);
        x.rule(4, 14);
        x.live(0);
        c.due("57 a draw of 14 is not below 14", x.lived(1), 0);
        // 1 * 3167 + 11383 = 14550; by 8: 1818; by 16: 10.
        x.rule(4, 11);
        x.live(1);
        c.due("57 a draw of 10 is below 11", x.lived(1), 1);
        x.rule(4, 10);
        x.live(1);
        c.due("57 a draw of 10 is not below 10", x.lived(1), 0);
        // 14550 * 3167 + 11383 = 46091233; by 65536 is left 19425; by 8: 2428; by 16: 12.
        Check.years(x, "any;any;");
        x.rule(4, 13);
        x.live(1);
        c.due("57 10 and 12", x.lived(1), 2);
        x.rule(4, 12);
        x.live(1);
        c.due("57 10 alone", x.lived(1), 1);
        c.due("57 12 is missed", x.lived(0), 1);
    }

    private static void livedLimits() {
        IslandCall x = Check.withBoat("habit 0;person p holds 9;");
        Check.years(x, "loop 99;call;call;call;end;call;call;");
        c.due(x, "56 loop, 297, 2", x.live(0), 300, 0);
        c.due("57 none is left", x.lived(4), 0);
        c.due("57 calls", x.lived(1), 299);
        Check.years(x, "loop 99;call;call;call;end;call;call;call;");
        c.due(x, "56 300 at most", x.live(0), 300, 0);
        c.due("57 one is left", x.lived(4), 1);
        c.due("57 calls", x.lived(1), 299);
        Check.years(x, "loop 99;call;call;call;end;call;call;stop;");
        x.live(0);
        c.due("57 a stop is left", x.lived(4), 1);
        Check.years(x, "loop 99;call;call;call;end;call;stop;call;");
        c.due(x, "56 a stop is the 300th", x.live(0), 300, 0);
        c.due("57 none is left", x.lived(4), 0);
        Check.years(x, "loop 99;call;call;call;end;call;when out p;call;end;");
        c.due(x, "56 a when is the 300th", x.live(0), 300, 0);
        c.due("57 it does not hold", x.lived(4), 0);
        Check.years(x, "loop 99;call;call;call;end;call;loop 9;end;");
        c.due(x, "56 an empty loop is the 300th", x.live(0), 300, 0);
        c.due("57 an end is no step", x.lived(4), 0);
        Check.years(x, "loop 99;loop 99;loop 99;end;end;end;");
        c.due(x, "56 loops alone", x.live(0), 300, 0);
        c.due("57 one is left", x.lived(4), 1);
        Check.years(x, "loop 99;loop 99;end;end;");
        c.due(x, "56 a loop within counts each time", x.live(0), 100, 0);
        c.due("57 none is left", x.lived(4), 0);
        Check.years(x, "loop 99;loop 1;call;end;end;loop 50;call;call;end;");
        c.due(x, "56 cut within a loop", x.live(0), 300, 0);
        c.due("57 calls: 99 and 100", x.lived(1), 199);
        c.due("57 none is left", x.lived(4), 0);
        Check.years(x, "loop 99;loop 1;call;end;end;loop 51;call;call;end;");
        x.live(0);
        c.due("57 the loop comes back to a step", x.lived(4), 1);
    }

    private static void means() {
        IslandCall x = Check.withBoat("odds 11;habit 0;person p holds 0;person q holds 9 out;");
        c.due(x, "58 no years", x.mean(0, 1), false, 6);
        Check.years(x, "any;");
        // By seed 0 the draw is 14, by seed 1 it is 10.
        c.due(x, "58 seed 0", x.mean(0, 1), true, 0);
        c.due("58 q alone", x.top() * 100 + x.bottom(), 101);
        c.due(x, "58 seed 1", x.mean(1, 1), true, 0);
        c.due("58 both", x.top() * 100 + x.bottom(), 201);
        c.due(x, "58 seeds 0, 1", x.mean(0, 2), true, 0);
        c.due("58 one and a half", x.top() * 100 + x.bottom(), 302);
        c.due("58 all stays", x.told(5) * 100 + x.told(6), 1);
        c.due(x, "58 nothing was lived", x.lived(0), -1, 6);
        c.due(x, "58 20", x.mean(9980, 20), true, 0);
        c.due(x, "58 the last above 9,999", x.mean(9981, 20), false, 1);
        c.due(x, "58 21", x.mean(0, 21), false, 1);
        c.due(x, "58 0", x.mean(0, 0), false, 1);
        c.due(x, "58 seed", x.mean(-1, 2), false, 1);
        c.due(x, "58 seed", x.mean(10000, 1), false, 1);
        c.due(x, "58 seed", x.mean(Integer.MAX_VALUE, 1), false, 1);
        c.due(x, "58 the last", x.mean(9999, 1), true, 0);
        Check.boat(x, "person p holds 9;");
        Check.years(x, "call;");
        x.mean(5, 20);
        c.due("58 nobody is out", x.top() * 100 + x.bottom(), 1);
    }

    private static void marks() {
        IslandCall x = Check.withBoat(CHAIN);
        Check.years(x, "show a;call;");
        c.due(x, "59 one", x.mark(), 1, 0);
        x.live(0);
        x.see(0, 3, false);
        x.excuse(2, 0, false);
        x.paint(0, 5);
        x.rule(2, 7);
        x.rule(3, 0);
        x.rule(4, 3);
        x.come(4);
        c.due(x, "59 two", x.mark(), 2, 0);
        Check.boat(x, "person zoe holds 0;");
        Check.years(x, "board zoe;sway zoe 3;call;");
        c.due(x, "59 three", x.mark(), 3, 0);
        c.due(x, "59 four", x.mark(), -1, 4);
        x.tray(0, 0, 1);
        x.write(0, 0, 5);
        x.tides(1, 1);
        x.feed(0x20202020, 0, 0, 0, 0);
        x.call();
        c.due(x, "60 two left", x.undo(), 2, 0);
        c.due("60 zoe is on board", x.told(6), 1);
        c.due("60 no call", x.told(5), 0);
        c.due("60 trays stay", x.read(0, 0), 5);
        c.due("60 the tape stays", x.feed(0, 0, 0, 0, 0), 40);
        c.due("60 the fraction stays", x.top(), 3);
        c.due("60 her years", x.live(0), 3);
        c.due(x, "60 one left", x.undo(), 1, 0);
        c.due("60 ann and ben are out", x.told(6), 44);
        c.due("60 six people", x.told(1), 6);
        c.due("60 odds", x.told(4), 3);
        c.due("60 the years of then", x.live(0), 2);
        c.due("57 what was lived latest stays", x.lived(0), 1);
        c.due(x, "60 none left", x.undo(), 0, 0);
        int[] all = {2, 5, 2, 2, 8, 0, 15, 2, 0};
        for (int what = 0; what < all.length; what++) {
            c.due("60 told " + what, x.told(what), all[what]);
        }
        int[] dov = {4, 1, 1, 0, 1, 20, 23};
        for (int what = 0; what < dov.length; what++) {
            c.due("60 dov " + what, x.person(3, what), dov[what]);
        }
        c.due("60 cis", x.person(2, 4), 3);
        c.due("60 pull", x.omen(0, 0), 1);
        c.due("57 it is not taken back", x.lived(1), 1);
        c.due(x, "60 no more", x.undo(), -1, 6);
        c.due("60 the years of the first", x.live(0), 2);
        x.boat(0);
        x.mark();
        Check.boat(x, "person p holds 1;");
        x.years(0);
        x.undo();
        c.due(x, "60 there were none", x.live(0), -1, 6);
        c.due("60 nobody", x.told(1), 0);
    }

    /** No number may stop a call from answering, whatever there is. */
    private static void anyNumber() {
        int[] odd = {Integer.MIN_VALUE, Integer.MIN_VALUE + 1, -65537, -33, -32, -31, -9, -1, 31, 32, 33, 63, 64, 900, 901, 65536,
                Integer.MAX_VALUE - 1, Integer.MAX_VALUE};
        IslandCall x = Check.withBoat(CHAIN);
        for (int v : odd) {
            c.due(x, "13 any number: told", x.told(v), -1, 1);
            c.due(x, "14 any number: omen", x.omen(v, 0), -1, 1);
            c.due(x, "15 any number: person", x.person(v, 0), -1, 1);
            c.due(x, "17 any number: show", x.show(v, true), false, 1);
            c.due(x, "21 any number: see", x.see(0, v, true), false, 1);
            c.due(x, "25 any number: need", x.need(v, 0), -1, 1);
            c.due(x, "27 any number: outBy", x.outBy(v), -1, 1);
            c.due(x, "33 any number: seeds", x.seeds(v), -1, 1);
            c.due(x, "37 any number: lures", x.lures(v), -1, 1);
            c.due(x, "51 any number: game", x.game(v), -1, 1);
            c.due(x, "52 any number: moveOf", x.moveOf(v), -1, 1);
            c.due(x, "53 any number: tides", x.tides(v, v), false, 1);
            c.due(x, "54 any number: sloth", x.sloth(v), false, 1);
            c.due(x, "55 any number: copyHolds", x.copyHolds(v), -1, 1);
            c.due(x, "57 any number: lived", x.lived(v), -1, 1);
            c.due(x, "58 any number: mean", x.mean(0, v), false, 1);
            c.due(x, "10 any number: boat", x.boat(v), -1, 1);
            c.due(x, "11 any number: years", x.years(v), -1, 1);
            c.due("12 any number: fault", x.fault(v), -1);
        }
    }
}
