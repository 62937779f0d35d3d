import java.util.ArrayList;
import java.util.List;

/**
 * All that can be seen of an object, as lines. A look takes the tape off, lives the YEARS and takes the MARKS back:
 * an object is looked at once, and behind all else.
 */
final class Look {
    private static final String[] NAMES = {"a", "b", "p", "q", "r", "s", "z"};

    private final Asked who;
    private final List<String> lines = new ArrayList<>();

    private Look(Asked who) {
        this.who = who;
    }

    /** With what fault() tells, or without it: boat(), years() with 9 change that. */
    static List<String> at(Asked who, boolean faultToo) {
        Look look = new Look(who);
        if (faultToo) {
            look.see("fault", 0);
            look.see("fault", 1);
        }
        look.see("top");
        look.see("bottom");
        look.life();
        look.boat();
        look.trays();
        look.tape();
        look.marks();
        look.sorts();
        return look.lines;
    }

    private long see(String name, long... a) {
        long answer = who.ask(name, a);
        StringBuilder line = new StringBuilder(name).append('(');
        for (int i = 0; i < a.length; i++) {
            line.append(i == 0 ? "" : ", ").append(a[i]);
        }
        lines.add(line.append(") = ").append(answer).toString());
        return answer;
    }

    /** Like see, for the calls that have a STATUS. */
    private long seeAll(String name, long... a) {
        long answer = see(name, a);
        see("status");
        return answer;
    }

    private void life() {
        if (seeAll("lived", 0) >= 0) {
            for (int what = 1; what <= 4; what++) {
                see("lived", what);
            }
        }
    }

    private void boat() {
        for (int what = 0; what <= 8; what++) {
            see("told", what);
        }
        long omens = who.ask("told", 0);
        for (int o = 0; o < omens; o++) {
            for (int what = 0; what <= 2; what++) {
                see("omen", o, what);
            }
        }
        long people = who.ask("told", 1);
        for (int p = 0; p < people; p++) {
            for (int what = 0; what <= 6; what++) {
                see("person", p, what);
            }
        }
    }

    private void trays() {
        for (int t = 0; t < 4; t++) {
            for (int place = 0; place <= 60; place++) {
                // A number of -1 is told from NONE by the STATUS.
                if (see("read", t, place) == -1 && see("status") != 0) {
                    break;
                }
            }
        }
        // To pour nothing changes nothing, and tells whether sorts are alike.
        for (int t = 0; t < 4; t++) {
            for (int other = 0; other < t; other++) {
                see("pour", t, 0, other, 0, 0);
            }
        }
    }

    private void tape() {
        int blanks = 0x20202020;
        long many = see("feed", blanks, blanks, blanks, blanks, blanks);
        years();
        // What is on the tape shows in whether it can be YEARS.
        seeAll("years", many < 0 || many > 300 ? 300 : many);
        see("fault", 0);
        see("fault", 1);
        for (String name : NAMES) {
            Stage.feed(who, "board " + name + ";");
            see("years", 8);
            Stage.feed(who, "show " + name + ";");
            see("years", 7);
        }
    }

    private void years() {
        seeAll("live", 3);
        for (int what = 5; what <= 8; what++) {
            see("told", what);
        }
    }

    private void marks() {
        for (int i = 0; i < 4 && seeAll("undo") >= 0; i++) {
            boat();
            years();
        }
    }

    private void sorts() {
        for (int t = 0; t < 4; t++) {
            see("write", t, 0, 0x8182838485868788L);
            see("read", t, 0);
        }
    }
}
