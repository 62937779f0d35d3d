import java.lang.reflect.Method;
import java.util.ArrayList;
import java.util.List;
import java.util.Map;
import java.util.Random;
import java.util.TreeMap;
import java.util.regex.Matcher;
import java.util.regex.Pattern;

/** Random runs of calls, from fixed seeds, on the class and on Model: every answer and every status must agree. */
public final class ModelTest {
    private static final int RUNS = 400;
    private static final int CALLS = 500;
    private static final String[] WORDS = {"plank", "habit", "odds", "sign", "pulls", "shown", "person", "holds", "out", "against",
            "blind", "call", "show", "hide", "board", "sway", "any", "when", "shows", "loop", "end", "stop", "abcdefgh",
            "abcdefghi", "q", "p", "z", ";", "<", ">", "=", "0", "1", "9", "10", "99", "100", "0001", "12345", "A", "-", "\t",
            "\r", "\0", "\u00e9", "" + (char) 255};

    private final Random random;
    private final Real real = new Real();
    private final IslandCall x = real.x;
    private final Model model = new Model();
    private final int run;
    private final List<String> done = new ArrayList<>();
    private final List<String> omenNames = new ArrayList<>();
    private final List<String> personNames = new ArrayList<>();
    private static int wrong = 0;
    private static int asked = 0;
    private static final List<Method> METHODS = new ArrayList<>(Real.METHODS.values());
    // What each call, by the document, may have for a status; each must have been met, or the runs are too poor.
    private static final String[] STATUSES = {"tray 01", "write 0123", "read 0123", "pour 01238", "boat 019", "years 019", "told 01",
            "omen 01", "person 01", "call 04", "show 017", "board 017", "sway 01", "excuse 017", "see 017", "paint 01", "come 014",
            "rule 01", "need 01", "roundOf 0167", "outBy 01", "restBy 01", "rounds 01", "atRest 017", "rests 01", "greatest 01",
            "seeds 01", "seedSet 01", "weight 017", "keystone 016", "lures 0167", "lureSet 0167", "best 0", "bestOut 0", "never 0",
            "outIn 01", "outAt 0167", "holdIn 01", "fits 01235", "fitsAt 012356", "ask 012356", "lookouts 0", "lookoutSet 0",
            "couples 0", "game 01", "moveOf 016", "tides 01", "sloth 016", "copyHolds 0123", "live 016", "lived 016", "mean 016",
            "mark 04", "undo 06"};
    private static final String[] FAULTS = {"boat 123456", "years 123467"};
    private static final Map<String, Integer> MET = new TreeMap<>();

    private ModelTest(int run) {
        this.run = run;
        random = new Random(run * 7919L + 5);
    }

    public static void main(String[] args) {
        int runs = args.length > 0 ? Integer.parseInt(args[0]) : RUNS;
        int from = args.length > 1 ? Integer.parseInt(args[1]) : 0;
        for (int run = from; run < from + runs && wrong < 5; run++) {
            new ModelTest(run).go();
        }
        if (args.length == 0) {
            mustHaveMet("status", STATUSES);
            mustHaveMet("fault", FAULTS);
        }
        System.out.println(asked + " answers, " + wrong + " of them wrong");
        if (wrong != 0) {
            System.exit(1);
        }
    }

    private static void mustHaveMet(String what, String[] all) {
        for (String row : all) {
            String name = row.substring(0, row.indexOf(' '));
            for (char digit : row.substring(name.length() + 1).toCharArray()) {
                if (MET.getOrDefault(what + " " + name + " " + digit, 0) < 5) {
                    System.out.println("promise " + Promises.of(name) + ": hardly met: " + what + " " + digit + " of " + name);
                    wrong++;
                }
            }
        }
    }

    private void go() {
        int style = random.nextInt(8);
        if (style > 0) {
            takeText("boat", boatText());
            if (random.nextBoolean()) {
                takeText("years", yearsText());
            }
        }
        if (run % 50 == 7) {
            manyCalls();
        }
        int before = wrong;
        while (done.size() < CALLS && wrong == before) {
            int kind = random.nextInt(40);
            if (kind == 0) {
                takeText("boat", spoiled(boatText()));
            } else if (kind == 1) {
                takeText("years", spoiled(yearsText()));
            } else if (kind == 2) {
                fillTray();
            } else {
                Method m = METHODS.get(random.nextInt(METHODS.size()));
                // An empty boat would be taken too often.
                if (!m.getName().equals("boat") || random.nextInt(40) == 0) {
                    one(m.getName(), someArguments(m));
                }
            }
        }
    }

    private void takeText(String name, String text) {
        if (model.tape.length() > 0 && random.nextInt(30) > 0) {
            // Bytes left over from ahead would spoil the text: they are taken off as years, good or not.
            one("years", Math.min(300, model.tape.length()));
        }
        int[] bytes = Check.bytesOf(text);
        for (int i = 0; i < bytes.length; i += 20) {
            one("feed", Check.four(bytes, i), Check.four(bytes, i + 4), Check.four(bytes, i + 8), Check.four(bytes, i + 12),
                    Check.four(bytes, i + 16));
        }
        one(name, bytes.length);
        one("fault", 0);
        one("fault", 1);
    }

    /** Up to the last call that can be made, and beyond it. */
    private void manyCalls() {
        takeText("years", "loop 99;call;any;call;end;");
        for (int i = 0; i < 42; i++) {
            one("live", random.nextInt(10000));
        }
        for (int i = 0; i < 120; i++) {
            one("call");
        }
        one("live", 0);
    }

    private void fillTray() {
        int tray = random.nextInt(4);
        int n = random.nextInt(21);
        one("tray", tray, random.nextInt(4), 2 * n);
        int known = Math.min(n, 1 + random.nextInt(3));
        for (int i = 0; i < known; i++) {
            one("write", tray, 2 * i, random.nextInt(1 << model.now.omens.size()));
            one("write", tray, 2 * i + 1, random.nextInt(1 << model.now.people.size()));
        }
        int person = random.nextInt(9);
        one("fits", person, tray, known);
        one("fitsAt", person, tray, known, random.nextInt(2));
        one("ask", person, tray, known);
    }

    private long[] someArguments(Method m) {
        Class<?>[] kinds = m.getParameterTypes();
        long[] a = new long[kinds.length];
        for (int i = 0; i < a.length; i++) {
            if (kinds[i] == boolean.class) {
                a[i] = random.nextInt(2);
            } else {
                a[i] = someNumber(m.getName(), i, kinds[i] == long.class);
            }
        }
        return a;
    }

    /** Mostly a number that can be: p a person, o an omen, P and O sets of them, t a tray, else the most. */
    private static final String[] RANGES = {"tray t3,60", "write t60,", "read t60", "pour t5,t5,10", "told 8", "omen o2", "person p6",
            "show o", "board p", "sway p9", "excuse po", "see pp", "paint o5", "come 9", "rule 4,9", "need pO", "roundOf pO",
            "outBy O", "restBy O", "rounds O", "atRest PO", "rests O", "greatest O", "seeds O", "seedSet O", "weight pO", "keystone O",
            "lures p", "lureSet p", "outIn 60", "outAt p", "holdIn p60", "fits pt20", "fitsAt pt3,1", "ask pt20", "game 3", "moveOf 3",
            "tides 12,12", "sloth p", "copyHolds t", "live 9999", "lived 4", "mean 9999,20", "fault 1"};

    private long someNumber(String name, int place, boolean wide) {
        int luck = random.nextInt(40);
        if (luck == 0) {
            return wide ? random.nextLong() : random.nextInt();
        }
        if (luck < 3) {
            int[] edges = {-1, Integer.MIN_VALUE, Integer.MAX_VALUE, -2, 64, 256, 61, 13, 10, 17, 10000, 9999, 9980, 31, 32};
            return edges[random.nextInt(edges.length)];
        }
        if (luck < 5) {
            return random.nextInt(61);
        }
        for (String row : RANGES) {
            if (row.startsWith(name + " ")) {
                return inRange(row.substring(name.length() + 1), place);
            }
        }
        return wide ? random.nextInt(300) : random.nextInt(9);
    }

    private long inRange(String ranges, int place) {
        Matcher m = Pattern.compile("[a-zA-Z]|[0-9]+").matcher(ranges);
        for (int i = 0; m.find(); i++) {
            if (i == place) {
                switch (m.group()) {
                    case "t": return random.nextInt(4);
                    case "p": return random.nextInt(Math.max(1, model.now.people.size()));
                    case "o": return random.nextInt(Math.max(1, model.now.omens.size()));
                    case "P": return random.nextInt(1 << model.now.people.size());
                    case "O": return random.nextInt(1 << model.now.omens.size());
                    default: return random.nextInt(Integer.parseInt(m.group()) + 1);
                }
            }
        }
        return random.nextInt(300);
    }

    private void one(String name, long... a) {
        StringBuilder told = new StringBuilder(name).append('(');
        for (int i = 0; i < a.length; i++) {
            told.append(i == 0 ? "" : ", ").append(a[i]);
        }
        done.add(told.append(')').toString());
        long want = model.ask(name, a);
        long got = real.ask(name, a);
        asked++;
        MET.merge("status " + name + " " + model.status, 1, Integer::sum);
        if (model.status == 9) {
            MET.merge("fault " + name + " " + model.fault, 1, Integer::sum);
        }
        agree(told.toString(), got, want);
        agree(told + " status()", x.status(), model.status);
        agree(told + " top()", x.top(), model.top.longValueExact());
        agree(told + " bottom()", x.bottom(), model.bottom.longValueExact());
        if (random.nextInt(16) == 0) {
            int before = wrong;
            agreeInAll(told.toString());
            if (wrong != before) {
                tellRun();
            }
        }
    }

    private void agreeInAll(String behind) {
        for (int what = 0; what <= 8; what++) {
            agree(behind + " told " + what, x.told(what), model.ask("told", what));
        }
        for (int o = 0; o < model.now.omens.size(); o++) {
            for (int what = 0; what <= 2; what++) {
                agree(behind + " omen " + o + " " + what, x.omen(o, what), model.ask("omen", o, what));
            }
        }
        for (int p = 0; p < model.now.people.size(); p++) {
            for (int what = 0; what <= 6; what++) {
                agree(behind + " person " + p + " " + what, x.person(p, what), model.ask("person", p, what));
            }
        }
        for (int t : model.trays.keySet()) {
            for (int i = 0; i <= model.trays.get(t).length; i++) {
                agree(behind + " read " + t + " " + i, x.read(t, i), model.ask("read", t, i));
            }
        }
        for (int what = 0; what <= 4; what++) {
            agree(behind + " lived " + what, x.lived(what), model.ask("lived", what));
        }
        agree(behind + " status", x.status(), model.status);
    }

    private void agree(String what, long got, long want) {
        if (got != want) {
            int promise = Promises.of(what.replaceFirst("\\W.*", ""));
            System.out.println("promise " + promise + ": run " + run + ", call " + done.size() + ": " + what + " answered " + got + ", due is " + want);
            if (wrong == 0) {
                tellRun();
            }
            wrong++;
        }
    }

    private void tellRun() {
        int from = Math.max(0, done.size() - 30);
        System.out.println(done.subList(from, done.size()));
    }

    // ---- texts

    private String blank() {
        return new String[] {" ", "  ", "\n", " \n "}[random.nextInt(10) < 7 ? 0 : random.nextInt(4)];
    }

    private String boatText() {
        StringBuilder b = new StringBuilder();
        omenNames.clear();
        personNames.clear();
        int omens = random.nextInt(30) == 0 ? 7 : random.nextInt(7);
        int people = random.nextInt(30) == 0 ? 9 : random.nextInt(9);
        String[] names = {"a", "b", "c", "dd", "eee", "ffffffff", "g"};
        String[] others = {"p", "pp", "q", "r", "s", "tttttttt", "u", "v", "w"};
        for (String rule : new String[] {"plank", "habit", "odds"}) {
            if (random.nextBoolean()) {
                int most = rule.equals("plank") ? 9 : rule.equals("habit") ? 3 : 16;
                int least = rule.equals("plank") ? 1 : 0;
                b.append(rule).append(blank()).append(least + random.nextInt(most - least + 1)).append(";");
            }
        }
        for (int i = 0; i < omens; i++) {
            omenNames.add(names[i]);
            b.append("sign").append(blank()).append(names[i]).append(" pulls ").append(1 + random.nextInt(5));
            b.append(random.nextInt(3) == 0 ? " shown" : "").append(";");
        }
        int highest = 1 + random.nextInt(10);
        for (int i = 0; i < people; i++) {
            personNames.add(others[i]);
            b.append("person ").append(others[i]).append(" holds").append(blank()).append(random.nextInt(highest));
            b.append(random.nextInt(5) == 0 ? " out" : "");
            if (random.nextInt(3) == 0) {
                b.append(" against");
                for (String name : omenNames) {
                    b.append(random.nextInt(3) == 0 ? blank() + name : "");
                }
            }
            b.append(";");
        }
        int blind = people < 2 ? 0 : random.nextInt(random.nextBoolean() ? 4 : 25);
        for (int i = 0; i < blind; i++) {
            int p = random.nextInt(people);
            int q = (p + 1 + random.nextInt(people - 1)) % people;
            b.append("blind ").append(others[p]).append(blank()).append(others[q]).append(";");
        }
        return b.length() > 900 ? b.substring(0, 900) : b.toString();
    }

    private String pick(List<String> names, String without) {
        return names.isEmpty() ? without : names.get(random.nextInt(names.size()));
    }

    private String yearsText() {
        StringBuilder b = new StringBuilder();
        int steps = random.nextInt(12);
        for (int i = 0; i < steps; i++) {
            addStep(b, random.nextInt(5) == 0 ? 0 : 1);
        }
        return b.toString();
    }

    private void addStep(StringBuilder b, int depth) {
        int kind = random.nextInt(depth > 3 ? 12 : 18);
        String omen = pick(omenNames, "a");
        String person = pick(personNames, "p");
        if (kind < 3) {
            b.append("call;");
        } else if (kind < 6) {
            b.append("any;");
        } else if (kind == 6) {
            b.append("show ").append(omen).append(";");
        } else if (kind == 7) {
            b.append("hide ").append(omen).append(";");
        } else if (kind < 10) {
            b.append("board ").append(person).append(";");
        } else if (kind == 10) {
            b.append("sway ").append(person).append(' ').append(random.nextInt(random.nextInt(9) == 0 ? 12 : 10)).append(";");
        } else if (kind == 11) {
            b.append(random.nextInt(6) == 0 ? "stop;" : "call;");
        } else {
            b.append(kind < 15 ? "when " + test(omen, person) : "loop " + (1 + random.nextInt(random.nextBoolean() ? 5 : 99)));
            b.append(";");
            int within = random.nextInt(4);
            for (int i = 0; i < within; i++) {
                addStep(b, depth + 1);
            }
            b.append("end;");
        }
    }

    private String test(String omen, String person) {
        int kind = random.nextInt(4);
        if (kind == 0) {
            return "out " + person;
        }
        if (kind == 1) {
            return "shows " + omen;
        }
        return "holds " + person + blank() + "<>=".charAt(random.nextInt(3)) + random.nextInt(random.nextInt(9) == 0 ? 12 : 10);
    }

    /** A text with a small wrong in it, or perhaps none. */
    private String spoiled(String text) {
        StringBuilder b = new StringBuilder(text);
        for (int i = random.nextInt(3); i > 0; i--) {
            int at = random.nextInt(b.length() + 1);
            int kind = random.nextInt(4);
            if (kind == 0 && at < b.length()) {
                b.deleteCharAt(at);
            } else if (kind == 1) {
                b.insert(at, blank() + WORDS[random.nextInt(WORDS.length)] + blank());
            } else if (kind == 2) {
                b.setLength(at);
            } else if (at < b.length()) {
                b.replace(at, Math.min(b.length(), at + 1 + random.nextInt(6)), WORDS[random.nextInt(WORDS.length)]);
            }
        }
        return b.length() > 900 ? b.substring(0, 900) : b.toString();
    }
}
