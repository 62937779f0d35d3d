import java.math.BigInteger;
import java.util.ArrayList;
import java.util.HashMap;
import java.util.List;
import java.util.Map;
import java.util.Set;
import java.util.TreeSet;

/**
 * The document once more, by its words and without a thought for speed or room: sets are sets, every
 * "of several" is looked for among all, a turn is tried on a copy. ModelTest holds the class against it.
 */
final class Model implements Asked {
    static final int NONE = -1;

    static final class Trouble extends RuntimeException {
        private static final long serialVersionUID = 1L;
        final int status;

        Trouble(int status) {
            super(null, null, false, false);
            this.status = status;
        }
    }

    static final class Fault extends RuntimeException {
        private static final long serialVersionUID = 1L;
        final int kind;
        final int place;

        Fault(int kind, int place) {
            super(null, null, false, false);
            this.kind = kind;
            this.place = place;
        }
    }

    static final class Omen {
        String name;
        int pull;
        boolean shown;
    }

    static final class Person {
        String name;
        int hold;
        boolean out;
        int sat;
        Set<Integer> excused = new TreeSet<>();
        Set<Integer> blindTo = new TreeSet<>();
    }

    static final class Step {
        String word;
        String test;
        char compare;
        int thing;
        int number;
        List<Step> within = new ArrayList<>();
    }

    static final class State {
        int plank = 4;
        int habit = 1;
        int odds = 12;
        int calls = 0;
        List<Omen> omens = new ArrayList<>();
        List<Person> people = new ArrayList<>();
        // Steps never change once they are read, so that copies may share them.
        List<Step> years = null;

        State copy() {
            State s = new State();
            s.plank = plank;
            s.habit = habit;
            s.odds = odds;
            s.calls = calls;
            s.years = years;
            for (Omen o : omens) {
                Omen n = new Omen();
                n.name = o.name;
                n.pull = o.pull;
                n.shown = o.shown;
                s.omens.add(n);
            }
            for (Person p : people) {
                Person n = new Person();
                n.name = p.name;
                n.hold = p.hold;
                n.out = p.out;
                n.sat = p.sat;
                n.excused.addAll(p.excused);
                n.blindTo.addAll(p.blindTo);
                s.people.add(n);
            }
            return s;
        }

        Set<Integer> aboard() {
            Set<Integer> set = new TreeSet<>();
            for (int p = 0; p < people.size(); p++) {
                if (!people.get(p).out) {
                    set.add(p);
                }
            }
            return set;
        }

        Set<Integer> shown() {
            Set<Integer> set = new TreeSet<>();
            for (int o = 0; o < omens.size(); o++) {
                if (omens.get(o).shown) {
                    set.add(o);
                }
            }
            return set;
        }

        boolean sees(int p, int other) {
            return p != other && !people.get(p).blindTo.contains(other);
        }

        int seen(int p, Set<Integer> set) {
            int n = 0;
            for (int other : set) {
                n += sees(p, other) ? 1 : 0;
            }
            return n;
        }

        int need(int p, int hold, Set<Integer> by) {
            int n = hold;
            for (int o : by) {
                n -= people.get(p).excused.contains(o) ? 0 : omens.get(o).pull;
            }
            return n < 0 ? 0 : n;
        }

        int need(int p, Set<Integer> by) {
            return need(p, people.get(p).hold, by);
        }

        /** Who rises in each round: as many rounds as told, the last of them perhaps empty. */
        List<Set<Integer>> risers(Set<Integer> by, Set<Integer> first, int rounds) {
            List<Set<Integer>> all = new ArrayList<>();
            Set<Integer> up = new TreeSet<>(first);
            for (int r = 0; r < rounds; r++) {
                Set<Integer> now = new TreeSet<>();
                for (int p : aboard()) {
                    if (!up.contains(p) && seen(p, up) >= need(p, by)) {
                        now.add(p);
                    }
                }
                all.add(now);
                up.addAll(now);
            }
            return all;
        }

        Set<Integer> up(Set<Integer> by, Set<Integer> first, int rounds) {
            Set<Integer> up = new TreeSet<>(first);
            for (Set<Integer> now : risers(by, first, rounds)) {
                up.addAll(now);
            }
            return up;
        }

        Set<Integer> getsOut(Set<Integer> by) {
            return up(by, Set.of(), plank);
        }

        Set<Integer> call() {
            Set<Integer> out = getsOut(shown());
            for (int p : out) {
                people.get(p).out = true;
            }
            for (int p : aboard()) {
                Person who = people.get(p);
                who.hold = who.hold + habit > 9 ? 9 : who.hold + habit;
                who.sat++;
            }
            calls++;
            return out;
        }

        boolean atRest(Set<Integer> set, Set<Integer> by) {
            for (int p : aboard()) {
                if (set.contains(p) != seen(p, set) >= need(p, by)) {
                    return false;
                }
            }
            return true;
        }

        int satInAll() {
            int n = 0;
            for (Person p : people) {
                n += p.sat;
            }
            return n;
        }
    }

    // ---- reading texts

    static final Set<String> KEYWORDS = Set.of("plank", "habit", "odds", "sign", "pulls", "shown", "person", "holds", "out",
            "against", "blind", "call", "show", "hide", "board", "sway", "any", "when", "shows", "loop", "end", "stop");

    static final class Token {
        String text;
        int place;

        boolean is(String s) {
            return text.equals(s);
        }

        boolean isNumber() {
            return text.matches("[0-9]+");
        }

        boolean isName() {
            return text.matches("[a-z]{1,8}") && !KEYWORDS.contains(text);
        }
    }

    static final class Reader {
        final String text;
        int at = 0;

        Reader(String text) {
            this.text = text;
        }

        /** The empty text stands for the end. */
        Token next() {
            while (at < text.length() && (text.charAt(at) == 10 || text.charAt(at) == 32)) {
                at++;
            }
            Token t = new Token();
            t.place = at;
            t.text = "";
            if (at == text.length()) {
                return t;
            }
            String rest = text.substring(at);
            t.text = rest.replaceFirst("(?s)^([a-z]+|[0-9]+|[;<>=]|).*$", "$1");
            if (t.text.isEmpty() || t.text.matches("[0-9]{5,}")) {
                throw new Fault(1, at);
            }
            at += t.text.length();
            return t;
        }

        Token peek() {
            int was = at;
            Token t = next();
            at = was;
            return t;
        }

        void want(String s) {
            Token t = next();
            if (!t.is(s)) {
                throw new Fault(2, t.place);
            }
        }

        Token name() {
            Token t = next();
            if (!t.isName()) {
                throw new Fault(2, t.place);
            }
            return t;
        }

        int number(int least, int most) {
            Token t = next();
            if (!t.isNumber()) {
                throw new Fault(2, t.place);
            }
            int v = Integer.parseInt(t.text);
            if (v < least || v > most) {
                throw new Fault(4, t.place);
            }
            return v;
        }
    }

    static int omenNamed(State s, Token t) {
        for (int o = 0; o < s.omens.size(); o++) {
            if (t.is(s.omens.get(o).name)) {
                return o;
            }
        }
        throw new Fault(3, t.place);
    }

    static int personNamed(State s, Token t) {
        for (int p = 0; p < s.people.size(); p++) {
            // Who came by come() has no name.
            if (s.people.get(p).name != null && t.is(s.people.get(p).name)) {
                return p;
            }
        }
        throw new Fault(3, t.place);
    }

    static State readBoat(String text) {
        Reader r = new Reader(text);
        State s = new State();
        Set<String> told = new TreeSet<>();
        Set<String> names = new TreeSet<>();
        while (true) {
            Token t = r.next();
            switch (t.text) {
                case "":
                    return s;
                case "plank":
                case "habit":
                case "odds":
                    if (!told.add(t.text)) {
                        throw new Fault(5, t.place);
                    }
                    if (t.is("plank")) {
                        s.plank = r.number(1, 9);
                    } else if (t.is("habit")) {
                        s.habit = r.number(0, 3);
                    } else {
                        s.odds = r.number(0, 16);
                    }
                    break;
                case "sign": {
                    if (s.omens.size() == 6) {
                        throw new Fault(6, t.place);
                    }
                    Omen o = new Omen();
                    Token name = r.name();
                    if (!names.add(name.text)) {
                        throw new Fault(3, name.place);
                    }
                    o.name = name.text;
                    r.want("pulls");
                    o.pull = r.number(1, 5);
                    if (r.peek().is("shown")) {
                        r.next();
                        o.shown = true;
                    }
                    s.omens.add(o);
                    break;
                }
                case "person": {
                    if (s.people.size() == 8) {
                        throw new Fault(6, t.place);
                    }
                    Person p = new Person();
                    Token name = r.name();
                    if (!names.add(name.text)) {
                        throw new Fault(3, name.place);
                    }
                    p.name = name.text;
                    r.want("holds");
                    p.hold = r.number(0, 9);
                    if (r.peek().is("out")) {
                        r.next();
                        p.out = true;
                    }
                    if (r.peek().is("against")) {
                        r.next();
                        while (r.peek().isName()) {
                            Token against = r.next();
                            if (!p.excused.add(omenNamed(s, against))) {
                                throw new Fault(5, against.place);
                            }
                        }
                    }
                    s.people.add(p);
                    break;
                }
                case "blind": {
                    int who = personNamed(s, r.name());
                    Token second = r.name();
                    int whom = personNamed(s, second);
                    if (who == whom) {
                        throw new Fault(5, second.place);
                    }
                    s.people.get(who).blindTo.add(whom);
                    break;
                }
                default:
                    throw new Fault(2, t.place);
            }
            r.want(";");
        }
    }

    static List<Step> readYears(String text, State s) {
        Reader r = new Reader(text);
        int[] count = {0};
        List<Step> steps = readSteps(r, s, 0, count);
        Token t = r.next();
        if (!t.is("")) {
            throw new Fault(2, t.place);
        }
        return steps;
    }

    private static List<Step> readSteps(Reader r, State s, int depth, int[] count) {
        List<Step> steps = new ArrayList<>();
        while (!r.peek().is("") && !r.peek().is("end")) {
            Token t = r.next();
            if (!Set.of("call", "show", "hide", "board", "sway", "any", "when", "loop", "stop").contains(t.text)) {
                throw new Fault(2, t.place);
            }
            count[0]++;
            if (count[0] == 31) {
                throw new Fault(6, t.place);
            }
            boolean opens = t.is("when") || t.is("loop");
            if (opens && depth == 3) {
                throw new Fault(7, t.place);
            }
            Step step = new Step();
            step.word = t.text;
            readRest(r, s, step);
            r.want(";");
            if (opens) {
                step.within = readSteps(r, s, depth + 1, count);
                r.want("end");
                r.want(";");
            }
            steps.add(step);
        }
        return steps;
    }

    private static void readRest(Reader r, State s, Step step) {
        switch (step.word) {
            case "show":
            case "hide":
                step.thing = omenNamed(s, r.name());
                break;
            case "board":
                step.thing = personNamed(s, r.name());
                break;
            case "sway":
                step.thing = personNamed(s, r.name());
                step.number = r.number(0, 9);
                break;
            case "loop":
                step.number = r.number(1, 99);
                break;
            case "when": {
                Token test = r.next();
                step.test = test.text;
                if (test.is("out")) {
                    step.thing = personNamed(s, r.name());
                } else if (test.is("shows")) {
                    step.thing = omenNamed(s, r.name());
                } else if (test.is("holds")) {
                    step.thing = personNamed(s, r.name());
                    Token compare = r.next();
                    if (!compare.is("<") && !compare.is(">") && !compare.is("=")) {
                        throw new Fault(2, compare.place);
                    }
                    step.compare = compare.text.charAt(0);
                    step.number = r.number(0, 9);
                } else {
                    throw new Fault(2, test.place);
                }
                break;
            }
            default:
                break;
        }
    }

    // ---- living

    static final class Stopped extends RuntimeException {
        private static final long serialVersionUID = 1L;

        Stopped() {
            super(null, null, false, false);
        }
    }

    static final class Life {
        int s;
        int steps;
        int missed;
        int calls;
        int out;
        int sat;
        int left;

        void run(State state, int seed) {
            s = seed;
            try {
                doAll(state, state.years);
            } catch (Stopped e) {
                // It ends there.
            }
        }

        void doAll(State state, List<Step> all) {
            for (Step step : all) {
                if (steps == 300) {
                    left = 1;
                    throw new Stopped();
                }
                steps++;
                doOne(state, step);
            }
        }

        void doOne(State state, Step step) {
            switch (step.word) {
                case "call":
                    call(state);
                    break;
                case "any":
                    s = (int) (((long) s * 3167 + 11383) % 65536);
                    if (s / 8 % 16 < state.odds) {
                        call(state);
                    } else {
                        missed++;
                    }
                    break;
                case "show":
                case "hide": {
                    Omen o = state.omens.get(step.thing);
                    missed += o.shown == step.word.equals("show") ? 1 : 0;
                    o.shown = step.word.equals("show");
                    break;
                }
                case "board": {
                    Person p = state.people.get(step.thing);
                    missed += p.out ? 0 : 1;
                    p.out = false;
                    break;
                }
                case "sway": {
                    Person p = state.people.get(step.thing);
                    missed += p.hold == step.number ? 1 : 0;
                    p.hold = step.number;
                    break;
                }
                case "when":
                    if (holds(state, step)) {
                        doAll(state, step.within);
                    }
                    break;
                case "loop":
                    for (int i = 0; i < step.number; i++) {
                        doAll(state, step.within);
                    }
                    break;
                default:
                    throw new Stopped();
            }
        }

        boolean holds(State state, Step step) {
            if (step.test.equals("shows")) {
                return state.omens.get(step.thing).shown;
            }
            Person p = state.people.get(step.thing);
            if (step.test.equals("out")) {
                return p.out;
            }
            return step.compare == '<' ? p.hold < step.number : step.compare == '>' ? p.hold > step.number : p.hold == step.number;
        }

        void call(State state) {
            if (state.calls == 9999) {
                missed++;
                return;
            }
            int before = state.satInAll();
            out += state.call().size();
            sat += state.satInAll() - before;
            calls++;
        }
    }

    // ---- the object

    State now = new State();
    List<State> marks = new ArrayList<>();
    int status = 0;
    BigInteger top = BigInteger.ZERO;
    BigInteger bottom = BigInteger.ONE;
    StringBuilder tape = new StringBuilder();
    int fault = NONE;
    int faultPlace = NONE;
    Life latest = null;
    Map<Integer, long[]> trays = new HashMap<>();
    Map<Integer, Integer> sorts = new HashMap<>();

    static Set<Integer> set(int bits) {
        Set<Integer> s = new TreeSet<>();
        for (int i = 0; i < 31; i++) {
            if ((bits & 1 << i) != 0) {
                s.add(i);
            }
        }
        return s;
    }

    static int bits(Set<Integer> set) {
        int b = 0;
        for (int i : set) {
            b += 1 << i;
        }
        return b;
    }

    static void must(boolean is, int status) {
        if (!is) {
            throw new Trouble(status);
        }
    }

    static boolean in(int v, int least, int most) {
        return least <= v && v <= most;
    }

    void mustPerson(int p) {
        must(in(p, 0, now.people.size() - 1), 1);
    }

    void mustOmen(int o) {
        must(in(o, 0, now.omens.size() - 1), 1);
    }

    Set<Integer> omenSet(long v) {
        must(v >= 0 && v < 1L << now.omens.size(), 1);
        return set((int) v);
    }

    Set<Integer> peopleSet(long v) {
        must(v >= 0 && v < 1L << now.people.size(), 1);
        return set((int) v);
    }

    void mustAboard(int p) {
        must(!now.people.get(p).out, 7);
    }

    void tell(long t, long b) {
        BigInteger g = BigInteger.valueOf(t).gcd(BigInteger.valueOf(b));
        top = BigInteger.valueOf(t).divide(g);
        bottom = BigInteger.valueOf(b).divide(g);
    }

    static long truth(boolean is) {
        return is ? 1 : 0;
    }

    @Override
    public long ask(String name, long... a) {
        int[] i = new int[a.length];
        for (int k = 0; k < a.length; k++) {
            i[k] = (int) a[k];
        }
        if (Set.of("status", "top", "bottom", "feed", "fault").contains(name)) {
            return plain(name, i);
        }
        try {
            long v = answer(name, i, a);
            status = 0;
            return v;
        } catch (Trouble t) {
            status = t.status;
            boolean yesNo = Set.of("tray", "write", "pour", "show", "sway", "excuse", "see", "paint", "rule", "tides", "sloth",
                    "mean").contains(name);
            return yesNo ? 0 : NONE;
        }
    }

    private long plain(String name, int[] i) {
        switch (name) {
            case "status": return status;
            case "top": return top.longValueExact();
            case "bottom": return bottom.longValueExact();
            case "feed":
                if (tape.length() > 880) {
                    return NONE;
                }
                for (int v : i) {
                    tape.append((char) (v >>> 24)).append((char) (v >>> 16 & 255)).append((char) (v >>> 8 & 255)).append((char) (v & 255));
                }
                return tape.length();
            default: return i[0] == 0 ? fault : i[0] == 1 ? faultPlace : NONE;
        }
    }

    private long answer(String name, int[] i, long[] a) {
        switch (name) {
            case "tray": case "write": case "read": case "pour": case "copyHolds":
                return trayCall(name, i, a);
            case "boat": case "years":
                return textCall(name, i[0]);
            case "told": case "omen": case "person":
                return toldCall(name, i);
            case "call": case "show": case "board": case "sway": case "excuse": case "see": case "paint": case "come": case "rule":
                return doneCall(name, i);
            case "need": case "roundOf": case "outBy": case "restBy": case "rounds": case "atRest": case "rests": case "greatest":
            case "seeds": case "seedSet": case "weight": case "keystone":
                return byCall(name, i);
            case "lures": case "lureSet": case "best": case "bestOut": case "never":
                return whichCall(name, i);
            case "outIn": case "outAt": case "holdIn":
                return aheadCall(name, i);
            case "fits": case "fitsAt": case "ask":
                return seenCall(name, i);
            case "lookouts": case "lookoutSet": case "couples":
                return sightCall(name);
            case "game": case "moveOf": case "tides": case "sloth":
                return gameCall(name, i);
            case "live": case "lived": case "mean":
                return yearsCall(name, i);
            case "mark":
                must(marks.size() < 3, 4);
                marks.add(now.copy());
                return marks.size();
            case "undo":
                must(!marks.isEmpty(), 6);
                now = marks.remove(marks.size() - 1);
                return marks.size();
            default:
                throw new IllegalStateException(name);
        }
    }

    private static long cut(long v, int sort) {
        return sort == 0 ? (byte) v : sort == 1 ? (short) v : sort == 2 ? (int) v : v;
    }

    private long trayCall(String name, int[] i, long[] a) {
        must(in(i[0], 0, 3), 1);
        switch (name) {
            case "tray":
                must(in(i[1], 0, 3) && in(i[2], 0, 60), 1);
                trays.put(i[0], new long[i[2]]);
                sorts.put(i[0], i[1]);
                return 1;
            case "write":
                must(trays.containsKey(i[0]), 2);
                must(in(i[1], 0, trays.get(i[0]).length - 1), 3);
                trays.get(i[0])[i[1]] = cut(a[2], sorts.get(i[0]));
                return 1;
            case "read":
                must(trays.containsKey(i[0]), 2);
                must(in(i[1], 0, trays.get(i[0]).length - 1), 3);
                return trays.get(i[0])[i[1]];
            case "pour": {
                must(in(i[2], 0, 3) && i[1] >= 0 && i[3] >= 0 && i[4] >= 0, 1);
                must(trays.containsKey(i[0]) && trays.containsKey(i[2]), 2);
                must(sorts.get(i[0]).equals(sorts.get(i[2])), 8);
                long[] from = trays.get(i[0]).clone();
                long[] to = trays.get(i[2]);
                must(a[1] + a[4] <= from.length && a[3] + a[4] <= to.length, 3);
                for (int k = 0; k < i[4]; k++) {
                    to[i[3] + k] = from[i[1] + k];
                }
                return 1;
            }
            default:
                must(trays.containsKey(i[0]), 2);
                must(trays.get(i[0]).length >= now.people.size(), 3);
                for (int p = 0; p < now.people.size(); p++) {
                    trays.get(i[0])[p] = now.people.get(p).hold;
                }
                return now.people.size();
        }
    }

    private static int countSteps(List<Step> steps) {
        int n = 0;
        for (Step s : steps) {
            n += 1 + countSteps(s.within);
        }
        return n;
    }

    private long textCall(String name, int n) {
        must(in(n, 0, tape.length()) && (name.equals("boat") || n <= 300), 1);
        String text = tape.substring(0, n);
        tape.setLength(0);
        try {
            long v;
            if (name.equals("boat")) {
                now = readBoat(text);
                v = now.people.size();
            } else {
                List<Step> years = readYears(text, now);
                now.years = years;
                v = countSteps(years);
            }
            fault = 0;
            faultPlace = NONE;
            return v;
        } catch (Fault f) {
            fault = f.kind;
            faultPlace = f.place;
            throw new Trouble(9);
        }
    }

    private long toldCall(String name, int[] i) {
        if (name.equals("told")) {
            must(in(i[0], 0, 8), 1);
            long[] all = {now.omens.size(), now.people.size(), now.plank, now.habit, now.odds, now.calls, bits(now.aboard()),
                    bits(now.shown()), now.satInAll()};
            return all[i[0]];
        }
        Set<Integer> set = new TreeSet<>();
        if (name.equals("omen")) {
            mustOmen(i[0]);
            must(in(i[1], 0, 2), 1);
            for (int p = 0; p < now.people.size(); p++) {
                if (now.people.get(p).excused.contains(i[0])) {
                    set.add(p);
                }
            }
            Omen o = now.omens.get(i[0]);
            return i[1] == 0 ? o.pull : i[1] == 1 ? truth(o.shown) : bits(set);
        }
        mustPerson(i[0]);
        must(in(i[1], 0, 6), 1);
        Set<Integer> seers = new TreeSet<>();
        for (int p = 0; p < now.people.size(); p++) {
            if (now.sees(i[0], p)) {
                set.add(p);
            }
            if (now.sees(p, i[0])) {
                seers.add(p);
            }
        }
        Person p = now.people.get(i[0]);
        long[] all = {p.hold, now.need(i[0], now.shown()), truth(!p.out), p.sat, bits(p.excused), bits(set), bits(seers)};
        return all[i[1]];
    }

    private long doneCall(String name, int[] i) {
        switch (name) {
            case "call":
                must(now.calls < 9999, 4);
                return bits(now.call());
            case "show":
                mustOmen(i[0]);
                must(now.omens.get(i[0]).shown != (i[1] == 1), 7);
                now.omens.get(i[0]).shown = i[1] == 1;
                return 1;
            case "board":
                mustPerson(i[0]);
                must(now.people.get(i[0]).out, 7);
                now.people.get(i[0]).out = false;
                return now.aboard().size();
            case "sway":
                mustPerson(i[0]);
                must(in(i[1], 0, 9), 1);
                now.people.get(i[0]).hold = i[1];
                return 1;
            case "excuse": {
                mustPerson(i[0]);
                mustOmen(i[1]);
                Set<Integer> set = now.people.get(i[0]).excused;
                must(i[2] == 1 ? set.add(i[1]) : set.remove(i[1]), 7);
                return 1;
            }
            case "see": {
                mustPerson(i[0]);
                mustPerson(i[1]);
                must(i[0] != i[1], 1);
                Set<Integer> set = now.people.get(i[0]).blindTo;
                must(i[2] == 1 ? set.remove(i[1]) : set.add(i[1]), 7);
                return 1;
            }
            case "paint":
                mustOmen(i[0]);
                must(in(i[1], 1, 5), 1);
                now.omens.get(i[0]).pull = i[1];
                return 1;
            case "come": {
                must(in(i[0], 0, 9), 1);
                must(now.people.size() < 8, 4);
                Person p = new Person();
                p.hold = i[0];
                now.people.add(p);
                return now.people.size() - 1;
            }
            default:
                must(i[0] == 2 && in(i[1], 1, 9) || i[0] == 3 && in(i[1], 0, 3) || i[0] == 4 && in(i[1], 0, 16), 1);
                now.plank = i[0] == 2 ? i[1] : now.plank;
                now.habit = i[0] == 3 ? i[1] : now.habit;
                now.odds = i[0] == 4 ? i[1] : now.odds;
                return 1;
        }
    }

    private List<Set<Integer>> setsAboard() {
        List<Set<Integer>> all = new ArrayList<>();
        for (int b = 0; b < 1 << now.people.size(); b++) {
            if (now.aboard().containsAll(set(b))) {
                all.add(set(b));
            }
        }
        return all;
    }

    /** The fewest first, then the least as a number. */
    private static boolean better(Set<Integer> a, Set<Integer> b) {
        return b == null || a.size() < b.size() || a.size() == b.size() && bits(a) < bits(b);
    }

    private long weight(int p, Set<Integer> by) {
        Set<Integer> with = now.getsOut(by);
        with.remove(p);
        State other = now.copy();
        other.people.get(p).out = true;
        return with.size() - other.getsOut(by).size();
    }

    private long byCall(String name, int[] i) {
        Set<Integer> by = omenSet(i[i.length - 1]);
        Set<Integer> found = null;
        switch (name) {
            case "need":
                mustPerson(i[0]);
                return now.need(i[0], by);
            case "roundOf": {
                mustPerson(i[0]);
                mustAboard(i[0]);
                List<Set<Integer>> rounds = now.risers(by, Set.of(), 20);
                for (int r = 0; r < 20; r++) {
                    if (rounds.get(r).contains(i[0])) {
                        return r + 1;
                    }
                }
                throw new Trouble(6);
            }
            case "outBy":
                return bits(now.getsOut(by));
            case "restBy":
                return bits(now.up(by, Set.of(), 20));
            case "rounds": {
                int n = 0;
                for (Set<Integer> r : now.risers(by, Set.of(), 20)) {
                    n += r.isEmpty() ? 0 : 1;
                }
                return n;
            }
            case "atRest": {
                Set<Integer> set = peopleSet(i[0]);
                must(now.aboard().containsAll(set), 7);
                return truth(now.atRest(set, by));
            }
            case "rests": {
                int n = 0;
                for (Set<Integer> s : setsAboard()) {
                    n += now.atRest(s, by) ? 1 : 0;
                }
                return n;
            }
            case "greatest":
                for (Set<Integer> s : setsAboard()) {
                    if (now.atRest(s, by) && (found == null || s.size() > found.size())) {
                        found = s;
                    }
                }
                return bits(found);
            case "seeds":
            case "seedSet":
                for (Set<Integer> s : setsAboard()) {
                    if (better(s, found) && now.up(by, s, 20).equals(now.aboard())) {
                        found = s;
                    }
                }
                return name.equals("seeds") ? found.size() : bits(found);
            case "weight":
                mustPerson(i[0]);
                mustAboard(i[0]);
                return weight(i[0], by);
            default: {
                must(!now.aboard().isEmpty(), 6);
                long most = -99;
                int who = NONE;
                for (int p : now.aboard()) {
                    if (weight(p, by) > most) {
                        most = weight(p, by);
                        who = p;
                    }
                }
                return who;
            }
        }
    }

    private long whichCall(String name, int[] i) {
        int sets = 1 << now.omens.size();
        Set<Integer> found = null;
        if (name.startsWith("lure")) {
            mustPerson(i[0]);
            mustAboard(i[0]);
            for (int b = 0; b < sets; b++) {
                if (better(set(b), found) && now.getsOut(set(b)).contains(i[0])) {
                    found = set(b);
                }
            }
            must(found != null, 6);
            return name.equals("lures") ? found.size() : bits(found);
        }
        Set<Integer> never = now.aboard();
        int most = -1;
        for (int b = 0; b < sets; b++) {
            Set<Integer> out = now.getsOut(set(b));
            never.removeAll(out);
            if (out.size() > most || out.size() == most && better(set(b), found)) {
                most = out.size();
                found = set(b);
            }
        }
        return name.equals("best") ? bits(found) : name.equals("bestOut") ? most : bits(never);
    }

    private long aheadCall(String name, int[] i) {
        State s = now.copy();
        if (name.equals("outAt")) {
            mustPerson(i[0]);
            mustAboard(i[0]);
            for (int n = 1; n <= 60; n++) {
                s.call();
                if (s.people.get(i[0]).out) {
                    return n;
                }
            }
            throw new Trouble(6);
        }
        if (name.equals("holdIn")) {
            mustPerson(i[0]);
        }
        int calls = i[i.length - 1];
        must(in(calls, 0, 60), 1);
        for (int n = 0; n < calls; n++) {
            s.call();
        }
        if (name.equals("holdIn")) {
            return s.people.get(i[0]).hold;
        }
        Set<Integer> out = new TreeSet<>();
        for (int p = 0; p < s.people.size(); p++) {
            if (s.people.get(p).out) {
                out.add(p);
            }
        }
        return bits(out);
    }

    private Set<Integer> fitting(int p, int tray, int n) {
        mustPerson(p);
        must(in(tray, 0, 3) && in(n, 0, 20), 1);
        must(trays.containsKey(tray), 2);
        long[] row = trays.get(tray);
        must(row.length >= 2 * n, 3);
        Set<Integer> holds = new TreeSet<>(Set.of(0, 1, 2, 3, 4, 5, 6, 7, 8, 9));
        for (int k = 0; k < n; k++) {
            must(row[2 * k] >= 0 && row[2 * k] < 1L << now.omens.size(), 5);
            must(row[2 * k + 1] >= 0 && row[2 * k + 1] < 1L << now.people.size(), 5);
            Set<Integer> by = set((int) row[2 * k]);
            Set<Integer> up = set((int) row[2 * k + 1]);
            holds.removeIf(h -> up.contains(p) != now.seen(p, up) >= now.need(p, h, by));
        }
        return holds;
    }

    private long seenCall(String name, int[] i) {
        must(i.length < 4 || in(i[3], 0, 1), 1);
        Set<Integer> holds = fitting(i[0], i[1], i[2]);
        if (name.equals("fits")) {
            return holds.size();
        }
        if (name.equals("fitsAt")) {
            must(!holds.isEmpty(), 6);
            List<Integer> row = new ArrayList<>(holds);
            return i[3] == 0 ? row.get(0) : row.get(row.size() - 1);
        }
        must(!now.omens.isEmpty() && holds.size() >= 2, 6);
        int found = NONE;
        int least = 99;
        for (int o = 0; o < now.omens.size(); o++) {
            int rise = 0;
            for (int h : holds) {
                rise += now.need(i[0], h, Set.of(o)) <= 0 ? 1 : 0;
            }
            int greater = rise > holds.size() - rise ? rise : holds.size() - rise;
            if (greater < least) {
                least = greater;
                found = o;
            }
        }
        return found;
    }

    private long sightCall(String name) {
        if (name.equals("couples")) {
            int n = 0;
            for (int p : now.aboard()) {
                for (int q : now.aboard()) {
                    n += p < q && now.sees(p, q) && now.sees(q, p) ? 1 : 0;
                }
            }
            return n;
        }
        Set<Integer> found = null;
        for (Set<Integer> s : setsAboard()) {
            boolean good = true;
            for (int p : now.aboard()) {
                good &= s.contains(p) || now.seen(p, s) > 0;
            }
            if (good && better(s, found)) {
                found = s;
            }
        }
        return name.equals("lookouts") ? found.size() : bits(found);
    }

    /** How many get out by best play, if so many of the turns are left to be played behind turn number done. */
    private int play(State s, int done, int turns) {
        if (done == turns) {
            return s.getsOut(s.shown()).size();
        }
        boolean captain = done % 2 == 0;
        int value = play(s, done + 1, turns);
        for (int o = 0; o < s.omens.size(); o++) {
            State t = s.copy();
            t.omens.get(o).shown = !t.omens.get(o).shown;
            int v = play(t, done + 1, turns);
            value = captain ? Math.max(value, v) : Math.min(value, v);
        }
        return value;
    }

    private long gameCall(String name, int[] i) {
        switch (name) {
            case "game":
                must(in(i[0], 0, 3), 1);
                return play(now.copy(), 0, i[0]);
            case "moveOf": {
                must(in(i[0], 1, 3), 1);
                int value = play(now.copy(), 0, i[0]);
                for (int o = 0; o < now.omens.size(); o++) {
                    State t = now.copy();
                    t.omens.get(o).shown = !t.omens.get(o).shown;
                    if (play(t, 1, i[0]) == value) {
                        return o;
                    }
                }
                throw new Trouble(6);
            }
            case "tides": {
                must(in(i[0], 0, 12) && in(i[1], 0, 12), 1);
                long sum = 0;
                long all = 0;
                for (int b = 0; b < 1 << i[0]; b++) {
                    long way = 1;
                    for (int k = 0; k < i[0]; k++) {
                        way *= (b & 1 << k) != 0 ? now.odds : 16 - now.odds;
                    }
                    all += way;
                    sum += set(b).size() >= i[1] ? way : 0;
                }
                tell(sum, all);
                return 1;
            }
            default:
                mustPerson(i[0]);
                must(now.calls > 0, 6);
                tell(now.people.get(i[0]).sat, now.calls);
                return 1;
        }
    }

    private long yearsCall(String name, int[] i) {
        switch (name) {
            case "live":
                must(in(i[0], 0, 9999), 1);
                must(now.years != null, 6);
                latest = new Life();
                latest.run(now, i[0]);
                return latest.steps;
            case "lived": {
                must(in(i[0], 0, 4), 1);
                must(latest != null, 6);
                int[] all = {latest.missed, latest.calls, latest.out, latest.sat, latest.left};
                return all[i[0]];
            }
            default: {
                must(in(i[0], 0, 9999) && in(i[1], 1, 20) && in(i[0] + i[1] - 1, 0, 9999), 1);
                must(now.years != null, 6);
                long sum = 0;
                for (int k = 0; k < i[1]; k++) {
                    State s = now.copy();
                    new Life().run(s, i[0] + k);
                    sum += s.people.size() - s.aboard().size();
                }
                tell(sum, i[1]);
                return 1;
            }
        }
    }
}
