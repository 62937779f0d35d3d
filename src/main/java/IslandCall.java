/** A boat that calls at an island where nobody gets out. README.md tells how to use it. */
public final class IslandCall {
    public static final int NONE = -1;

    private static final int FINE = 0;
    private static final int WRONG_NUMBER = 1;
    private static final int TRAY_MISSING = 2;
    private static final int NO_SUCH_PLACE = 3;
    private static final int ONE_TOO_MANY = 4;
    private static final int WRONG_IN_TRAY = 5;
    private static final int NONE_SUCH = 6;
    private static final int CANNOT_BE = 7;
    private static final int UNLIKE_SORTS = 8;
    private static final int FAULTY = 9;

    private static final int MOST_OMENS = 6;
    private static final int MOST_PEOPLE = 8;
    private static final int MOST_HOLD = 9;
    private static final int MOST_PULL = 5;
    private static final int MOST_PLANK = 9;
    private static final int MOST_HABIT = 3;
    private static final int MOST_ODDS = 16;
    private static final int MOST_CALLS = 9999;
    private static final int MOST_AHEAD = 60;
    private static final int MOST_TWOS = 20;
    private static final int MOST_TURNS = 3;
    private static final int MOST_TIDES = 12;
    private static final int MOST_SEED = 9999;
    private static final int MOST_LIVES = 20;
    private static final int MOST_MARKS = 3;
    private static final int TAPE_ROOM = 900;
    private static final int YEARS_ROOM = 300;

    // The words that are no names, each known by its place in KEYWORDS.
    private static final String KEYWORDS =
            "plank habit odds sign pulls shown person holds out against blind call show hide board sway any when shows loop end stop";
    private static final int KEYWORD_COUNT = 22;
    private static final int WORD_PLANK = 0;
    private static final int WORD_HABIT = 1;
    private static final int WORD_ODDS = 2;
    private static final int WORD_SIGN = 3;
    private static final int WORD_PULLS = 4;
    private static final int WORD_SHOWN = 5;
    private static final int WORD_PERSON = 6;
    private static final int WORD_HOLDS = 7;
    private static final int WORD_OUT = 8;
    private static final int WORD_AGAINST = 9;
    private static final int WORD_BLIND = 10;
    private static final int WORD_CALL = 11;
    private static final int WORD_SHOW = 12;
    private static final int WORD_HIDE = 13;
    private static final int WORD_BOARD = 14;
    private static final int WORD_SWAY = 15;
    private static final int WORD_ANY = 16;
    private static final int WORD_WHEN = 17;
    private static final int WORD_SHOWS = 18;
    private static final int WORD_LOOP = 19;
    private static final int WORD_END = 20;
    private static final int WORD_STOP = 21;

    private static final int FAULT_TOKEN = 1;
    private static final int FAULT_STAND = 2;
    private static final int FAULT_NAME = 3;
    private static final int FAULT_NUMBER = 4;
    private static final int FAULT_AGAIN = 5;
    private static final int FAULT_MANY = 6;
    private static final int FAULT_DEEP = 7;

    private int lastStatus;
    private int tapeLength;
    private int marks;
    private final int[] tape = new int[TAPE_ROOM];
    private final Trays trays = new Trays();
    private final Fraction fraction = new Fraction();
    private final Boat ship = new Boat();
    private final Years plan = new Years();
    // Texts are read, and what is ahead is tried, on spare ones, so that the true ones stay.
    private final Boat spareShip = new Boat();
    private final Years sparePlan = new Years();
    private final Boat[] keptShips = new Boat[MOST_MARKS];
    private final Years[] keptPlans = new Years[MOST_MARKS];
    private final Tokens tokens = new Tokens(tape);
    private final BoatReader boatReader = new BoatReader(tokens, spareShip);
    private final YearsReader yearsReader = new YearsReader(tokens, sparePlan, ship);
    private final Life latestLife = new Life();
    private final Life spareLife = new Life();
    private final Study study = new Study(ship);

    public IslandCall() {
        for (int i = 0; i < MOST_MARKS; i++) {
            keptShips[i] = new Boat();
            keptPlans[i] = new Years();
        }
    }

    public int status() {
        return lastStatus;
    }

    public long top() {
        return fraction.above;
    }

    public long bottom() {
        return fraction.below;
    }

    // ---- how a call answers

    private int answer(int value) {
        lastStatus = FINE;
        return value;
    }

    private int refuse(int why) {
        lastStatus = why;
        return NONE;
    }

    private boolean grant(int why) {
        lastStatus = why;
        return why == FINE;
    }

    private static boolean isWithin(int value, int least, int most) {
        return value >= least && value <= most;
    }

    // ---- trays

    public boolean tray(int tray, int sort, int many) {
        if (!trays.isTray(tray) || !isWithin(sort, 0, Trays.SORTS - 1) || !isWithin(many, 0, Trays.ROOM)) {
            return grant(WRONG_NUMBER);
        }
        trays.lay(tray, sort, many);
        return grant(FINE);
    }

    public boolean write(int tray, int place, long v) {
        int trouble = trays.troubleAt(tray, place);
        if (trouble == FINE) {
            trays.put(tray, place, v);
        }
        return grant(trouble);
    }

    public long read(int tray, int place) {
        int trouble = trays.troubleAt(tray, place);
        lastStatus = trouble;
        return trouble == FINE ? trays.valueAt(tray, place) : NONE;
    }

    public boolean pour(int from, int place, int to, int at, int many) {
        int trouble = trays.troubleToMove(from, place, to, at, many);
        if (trouble == FINE) {
            trays.move(from, place, to, at, many);
        }
        return grant(trouble);
    }

    // ---- texts

    public int feed(int a, int b, int c, int d, int e) {
        if (tapeLength + 20 > TAPE_ROOM) {
            return NONE;
        }
        feedFour(a);
        feedFour(b);
        feedFour(c);
        feedFour(d);
        feedFour(e);
        return tapeLength;
    }

    private void feedFour(int four) {
        for (int shift = 24; shift >= 0; shift -= 8) {
            tape[tapeLength] = four >>> shift & 255;
            tapeLength++;
        }
    }

    public int boat(int n) {
        if (!isWithin(n, 0, tapeLength)) {
            return refuse(WRONG_NUMBER);
        }
        boolean taken = boatReader.readText(n);
        tapeLength = 0;
        if (!taken) {
            return refuse(FAULTY);
        }
        ship.copyFrom(spareShip);
        plan.forget();
        return answer(ship.people);
    }

    public int years(int n) {
        if (!isWithin(n, 0, tapeLength) || n > YEARS_ROOM) {
            return refuse(WRONG_NUMBER);
        }
        boolean taken = yearsReader.readText(n);
        tapeLength = 0;
        if (!taken) {
            return refuse(FAULTY);
        }
        plan.copyFrom(sparePlan);
        return answer(plan.steps);
    }

    public int fault(int what) {
        if (what == 0) {
            return tokens.faultKind;
        }
        return what == 1 ? tokens.faultPlace : NONE;
    }

    public int told(int what) {
        switch (what) {
            case 0: return answer(ship.omens);
            case 1: return answer(ship.people);
            case 2: return answer(ship.plank);
            case 3: return answer(ship.habit);
            case 4: return answer(ship.odds);
            case 5: return answer(ship.calls);
            case 6: return answer(ship.aboard);
            case 7: return answer(ship.shown);
            case 8: return answer(ship.satInAll());
            default: return refuse(WRONG_NUMBER);
        }
    }

    public int omen(int omen, int what) {
        if (!ship.isOmen(omen)) {
            return refuse(WRONG_NUMBER);
        }
        switch (what) {
            case 0: return answer(ship.pull[omen]);
            case 1: return answer(ship.shown >> omen & 1);
            case 2: return answer(ship.excusedFrom(omen));
            default: return refuse(WRONG_NUMBER);
        }
    }

    public int person(int person, int what) {
        if (!ship.isPerson(person)) {
            return refuse(WRONG_NUMBER);
        }
        switch (what) {
            case 0: return answer(ship.hold[person]);
            case 1: return answer(ship.needBy(person, ship.shown));
            case 2: return answer(ship.aboard >> person & 1);
            case 3: return answer(ship.sat[person]);
            case 4: return answer(ship.excused[person]);
            case 5: return answer(ship.sees[person]);
            case 6: return answer(ship.seenBy(person));
            default: return refuse(WRONG_NUMBER);
        }
    }

    // ---- what is done

    public int call() {
        if (!ship.mayCall()) {
            return refuse(ONE_TOO_MANY);
        }
        return answer(ship.makeCall());
    }

    public boolean show(int omen, boolean is) {
        if (!ship.isOmen(omen)) {
            return grant(WRONG_NUMBER);
        }
        return grant(ship.turnOmen(omen, is) ? FINE : CANNOT_BE);
    }

    public int board(int person) {
        if (!ship.isPerson(person)) {
            return refuse(WRONG_NUMBER);
        }
        if (!ship.takeAboard(person)) {
            return refuse(CANNOT_BE);
        }
        return answer(Integer.bitCount(ship.aboard));
    }

    public boolean sway(int person, int hold) {
        if (!ship.isPerson(person) || !isWithin(hold, 0, MOST_HOLD)) {
            return grant(WRONG_NUMBER);
        }
        ship.hold[person] = hold;
        return grant(FINE);
    }

    public boolean excuse(int person, int omen, boolean is) {
        if (!ship.isPerson(person) || !ship.isOmen(omen)) {
            return grant(WRONG_NUMBER);
        }
        int changed = ship.excused[person] ^ 1 << omen;
        boolean excuses = (changed >> omen & 1) != 0;
        if (excuses != is) {
            return grant(CANNOT_BE);
        }
        ship.excused[person] = changed;
        return grant(FINE);
    }

    public boolean see(int person, int other, boolean is) {
        if (!ship.isPerson(person) || !ship.isPerson(other) || person == other) {
            return grant(WRONG_NUMBER);
        }
        int changed = ship.sees[person] ^ 1 << other;
        boolean opens = (changed >> other & 1) != 0;
        if (opens != is) {
            return grant(CANNOT_BE);
        }
        ship.sees[person] = changed;
        return grant(FINE);
    }

    public boolean paint(int omen, int pull) {
        if (!ship.isOmen(omen) || !isWithin(pull, 1, MOST_PULL)) {
            return grant(WRONG_NUMBER);
        }
        ship.pull[omen] = pull;
        return grant(FINE);
    }

    public int come(int hold) {
        if (!isWithin(hold, 0, MOST_HOLD)) {
            return refuse(WRONG_NUMBER);
        }
        if (ship.people >= MOST_PEOPLE) {
            return refuse(ONE_TOO_MANY);
        }
        return answer(ship.addPerson(Boat.NAMELESS, hold));
    }

    public boolean rule(int what, int much) {
        return grant(ship.setRule(what, much) ? FINE : WRONG_NUMBER);
    }

    // ---- a call by told omens

    public int need(int person, int omens) {
        if (!ship.isPerson(person) || !ship.isOmenSet(omens)) {
            return refuse(WRONG_NUMBER);
        }
        return answer(ship.needBy(person, omens));
    }

    /** A person who is asked for together with a set of omens and must be on board. */
    private int troubleWith(int person, int omens) {
        if (!ship.isPerson(person) || !ship.isOmenSet(omens)) {
            return WRONG_NUMBER;
        }
        return ship.isAboard(person) ? FINE : CANNOT_BE;
    }

    public int roundOf(int person, int omens) {
        int trouble = troubleWith(person, omens);
        if (trouble != FINE) {
            return refuse(trouble);
        }
        int round = study.roundOfRising(person, omens);
        return round == NONE ? refuse(NONE_SUCH) : answer(round);
    }

    public int outBy(int omens) {
        if (!ship.isOmenSet(omens)) {
            return refuse(WRONG_NUMBER);
        }
        return answer(ship.outOf(ship.aboard, omens));
    }

    public int restBy(int omens) {
        if (!ship.isOmenSet(omens)) {
            return refuse(WRONG_NUMBER);
        }
        return answer(study.restSet(omens));
    }

    public int rounds(int omens) {
        if (!ship.isOmenSet(omens)) {
            return refuse(WRONG_NUMBER);
        }
        return answer(study.roundsToRest(omens));
    }

    public int atRest(int people, int omens) {
        if (!ship.isPeopleSet(people) || !ship.isOmenSet(omens)) {
            return refuse(WRONG_NUMBER);
        }
        if ((people & ~ship.aboard) != 0) {
            return refuse(CANNOT_BE);
        }
        return answer(study.isRest(people, omens) ? 1 : 0);
    }

    public int rests(int omens) {
        if (!ship.isOmenSet(omens)) {
            return refuse(WRONG_NUMBER);
        }
        return answer(study.countRests(omens));
    }

    public int greatest(int omens) {
        if (!ship.isOmenSet(omens)) {
            return refuse(WRONG_NUMBER);
        }
        return answer(study.greatestRest(omens));
    }

    public int seeds(int omens) {
        if (!ship.isOmenSet(omens)) {
            return refuse(WRONG_NUMBER);
        }
        return answer(Integer.bitCount(study.fewestSeeds(omens)));
    }

    public int seedSet(int omens) {
        if (!ship.isOmenSet(omens)) {
            return refuse(WRONG_NUMBER);
        }
        return answer(study.fewestSeeds(omens));
    }

    public int weight(int person, int omens) {
        int trouble = troubleWith(person, omens);
        if (trouble != FINE) {
            return refuse(trouble);
        }
        return answer(study.weightOf(person, omens));
    }

    public int keystone(int omens) {
        if (!ship.isOmenSet(omens)) {
            return refuse(WRONG_NUMBER);
        }
        int heaviest = study.heaviest(omens);
        return heaviest == NONE ? refuse(NONE_SUCH) : answer(heaviest);
    }

    // ---- which omens

    public int lures(int person) {
        int trouble = troubleWith(person, 0);
        if (trouble != FINE) {
            return refuse(trouble);
        }
        int set = study.fewestLures(person);
        return set == NONE ? refuse(NONE_SUCH) : answer(Integer.bitCount(set));
    }

    public int lureSet(int person) {
        int trouble = troubleWith(person, 0);
        if (trouble != FINE) {
            return refuse(trouble);
        }
        int set = study.fewestLures(person);
        return set == NONE ? refuse(NONE_SUCH) : answer(set);
    }

    public int best() {
        return answer(study.bestOmens());
    }

    public int bestOut() {
        return answer(study.countOut(study.bestOmens()));
    }

    public int never() {
        return answer(study.neverOut());
    }

    // ---- calls ahead

    /** Makes the calls on the spare ship; its count of calls may pass 9,999, which nobody reads there. */
    private void tryCalls(int calls) {
        spareShip.copyFrom(ship);
        for (int i = 0; i < calls; i++) {
            spareShip.makeCall();
        }
    }

    public int outIn(int calls) {
        if (!isWithin(calls, 0, MOST_AHEAD)) {
            return refuse(WRONG_NUMBER);
        }
        tryCalls(calls);
        return answer(spareShip.outNow());
    }

    public int outAt(int person) {
        int trouble = troubleWith(person, 0);
        if (trouble != FINE) {
            return refuse(trouble);
        }
        spareShip.copyFrom(ship);
        for (int calls = 1; calls <= MOST_AHEAD; calls++) {
            int out = spareShip.makeCall();
            if ((out >> person & 1) != 0) {
                return answer(calls);
            }
        }
        return refuse(NONE_SUCH);
    }

    public int holdIn(int person, int calls) {
        if (!ship.isPerson(person) || !isWithin(calls, 0, MOST_AHEAD)) {
            return refuse(WRONG_NUMBER);
        }
        tryCalls(calls);
        return answer(spareShip.hold[person]);
    }

    // ---- what was seen

    private int troubleWithSeen(int person, int tray, int n) {
        if (!ship.isPerson(person) || !trays.isTray(tray) || !isWithin(n, 0, MOST_TWOS)) {
            return WRONG_NUMBER;
        }
        if (trays.isMissing(tray)) {
            return TRAY_MISSING;
        }
        if (trays.lengthOf(tray) < 2 * n) {
            return NO_SUCH_PLACE;
        }
        for (int i = 0; i < n; i++) {
            if (!ship.isOmenSet(trays.valueAt(tray, 2 * i)) || !ship.isPeopleSet(trays.valueAt(tray, 2 * i + 1))) {
                return WRONG_IN_TRAY;
            }
        }
        return FINE;
    }

    /** The holds that fit, as a set: 1 for hold 0 and so on. */
    private int fittingHolds(int person, int tray, int n) {
        int holds = 0;
        for (int hold = 0; hold <= MOST_HOLD; hold++) {
            boolean fit = true;
            for (int i = 0; i < n; i++) {
                int omens = (int) trays.valueAt(tray, 2 * i);
                int up = (int) trays.valueAt(tray, 2 * i + 1);
                boolean rises = Integer.bitCount(ship.sees[person] & up) >= ship.needWith(hold, person, omens);
                boolean isUp = (up >> person & 1) != 0;
                fit = fit && rises == isUp;
            }
            holds |= fit ? 1 << hold : 0;
        }
        return holds;
    }

    public int fits(int person, int tray, int n) {
        int trouble = troubleWithSeen(person, tray, n);
        if (trouble != FINE) {
            return refuse(trouble);
        }
        return answer(Integer.bitCount(fittingHolds(person, tray, n)));
    }

    public int fitsAt(int person, int tray, int n, int what) {
        int trouble = isWithin(what, 0, 1) ? troubleWithSeen(person, tray, n) : WRONG_NUMBER;
        if (trouble != FINE) {
            return refuse(trouble);
        }
        int holds = fittingHolds(person, tray, n);
        for (int i = 0; i <= MOST_HOLD; i++) {
            int hold = what == 0 ? i : MOST_HOLD - i;
            if ((holds >> hold & 1) != 0) {
                return answer(hold);
            }
        }
        return refuse(NONE_SUCH);
    }

    public int ask(int person, int tray, int n) {
        int trouble = troubleWithSeen(person, tray, n);
        if (trouble != FINE) {
            return refuse(trouble);
        }
        int holds = fittingHolds(person, tray, n);
        int many = Integer.bitCount(holds);
        int omen = many < 2 ? NONE : study.partingOmen(person, holds, many);
        return omen == NONE ? refuse(NONE_SUCH) : answer(omen);
    }

    // ---- who sees whom

    public int lookouts() {
        return answer(Integer.bitCount(study.fewestLookouts()));
    }

    public int lookoutSet() {
        return answer(study.fewestLookouts());
    }

    public int couples() {
        return answer(study.countCouples());
    }

    // ---- games, odds

    public int game(int turns) {
        if (!isWithin(turns, 0, MOST_TURNS)) {
            return refuse(WRONG_NUMBER);
        }
        study.playFrom(1, turns);
        return answer(study.worthNow());
    }

    public int moveOf(int turns) {
        if (!isWithin(turns, 1, MOST_TURNS)) {
            return refuse(WRONG_NUMBER);
        }
        study.playFrom(2, turns);
        int omen = study.captainsMove();
        return omen == NONE ? refuse(NONE_SUCH) : answer(omen);
    }

    public boolean tides(int n, int k) {
        if (!isWithin(n, 0, MOST_TIDES) || !isWithin(k, 0, MOST_TIDES)) {
            return grant(WRONG_NUMBER);
        }
        long sum = 0;
        long ways = 1;
        for (int made = 0; made <= n; made++) {
            if (made >= k) {
                sum += ways * power(ship.odds, made) * power(MOST_ODDS - ship.odds, n - made);
            }
            ways = ways * (n - made) / (made + 1);
        }
        fraction.tell(sum, power(MOST_ODDS, n));
        return grant(FINE);
    }

    private static long power(int base, int times) {
        long product = 1;
        for (int i = 0; i < times; i++) {
            product *= base;
        }
        return product;
    }

    public boolean sloth(int person) {
        if (!ship.isPerson(person)) {
            return grant(WRONG_NUMBER);
        }
        if (ship.calls == 0) {
            return grant(NONE_SUCH);
        }
        fraction.tell(ship.sat[person], ship.calls);
        return grant(FINE);
    }

    public int copyHolds(int tray) {
        if (!trays.isTray(tray)) {
            return refuse(WRONG_NUMBER);
        }
        if (trays.isMissing(tray)) {
            return refuse(TRAY_MISSING);
        }
        if (trays.lengthOf(tray) < ship.people) {
            return refuse(NO_SUCH_PLACE);
        }
        for (int i = 0; i < ship.people; i++) {
            trays.put(tray, i, ship.hold[i]);
        }
        return answer(ship.people);
    }

    // ---- years

    public int live(int seed) {
        if (!isWithin(seed, 0, MOST_SEED)) {
            return refuse(WRONG_NUMBER);
        }
        if (!plan.isTold) {
            return refuse(NONE_SUCH);
        }
        latestLife.run(ship, plan, seed);
        return answer(latestLife.steps);
    }

    public int lived(int what) {
        if (!isWithin(what, 0, 4)) {
            return refuse(WRONG_NUMBER);
        }
        if (!latestLife.wasRun) {
            return refuse(NONE_SUCH);
        }
        switch (what) {
            case 0: return answer(latestLife.missed);
            case 1: return answer(latestLife.callsMade);
            case 2: return answer(latestLife.gotOut);
            case 3: return answer(latestLife.satOn);
            default: return answer(latestLife.cutShort ? 1 : 0);
        }
    }

    public boolean mean(int seed, int many) {
        if (!isWithin(seed, 0, MOST_SEED) || !isWithin(many, 1, MOST_LIVES) || seed + many - 1 > MOST_SEED) {
            return grant(WRONG_NUMBER);
        }
        if (!plan.isTold) {
            return grant(NONE_SUCH);
        }
        int sum = 0;
        for (int i = 0; i < many; i++) {
            spareShip.copyFrom(ship);
            spareLife.run(spareShip, plan, seed + i);
            sum += Integer.bitCount(spareShip.outNow());
        }
        fraction.tell(sum, many);
        return grant(FINE);
    }

    // ---- marks

    public int mark() {
        if (marks >= MOST_MARKS) {
            return refuse(ONE_TOO_MANY);
        }
        keptShips[marks].copyFrom(ship);
        keptPlans[marks].copyFrom(plan);
        marks++;
        return answer(marks);
    }

    public int undo() {
        if (marks <= 0) {
            return refuse(NONE_SUCH);
        }
        marks--;
        ship.copyFrom(keptShips[marks]);
        plan.copyFrom(keptPlans[marks]);
        return answer(marks);
    }

    /** The fraction told latest. */
    private static final class Fraction {
        private static final int MOST_DIVISIONS = 200;

        long above = 0;
        long below = 1;

        /** The top is 0 or more, the bottom above 0. */
        void tell(long upper, long lower) {
            long divisor = lower;
            long rest = upper;
            for (int i = 0; i < MOST_DIVISIONS && rest != 0; i++) {
                long next = divisor % rest;
                divisor = rest;
                rest = next;
            }
            if (divisor > 0) {
                above = upper / divisor;
                below = lower / divisor;
            }
        }
    }

    /** Four rows of numbers, each as wide as its sort. */
    private static final class Trays {
        static final int COUNT = 4;
        static final int SORTS = 4;
        static final int ROOM = 60;

        private final long[][] rows = new long[COUNT][ROOM];
        private final int[] sorts = new int[COUNT];
        private final int[] lengths = new int[COUNT];
        private final boolean[] laid = new boolean[COUNT];

        boolean isTray(int t) {
            return t >= 0 && t < COUNT;
        }

        boolean isMissing(int t) {
            return !laid[t];
        }

        int lengthOf(int t) {
            return lengths[t];
        }

        void lay(int t, int sort, int many) {
            laid[t] = true;
            sorts[t] = sort;
            lengths[t] = many;
            for (int i = 0; i < many; i++) {
                rows[t][i] = 0;
            }
        }

        int troubleAt(int t, int place) {
            if (!isTray(t)) {
                return WRONG_NUMBER;
            }
            if (isMissing(t)) {
                return TRAY_MISSING;
            }
            return place >= 0 && place < lengths[t] ? FINE : NO_SUCH_PLACE;
        }

        void put(int t, int place, long v) {
            rows[t][place] = cut(v, sorts[t]);
        }

        long valueAt(int t, int place) {
            return rows[t][place];
        }

        int troubleToMove(int from, int place, int to, int at, int many) {
            if (!isTray(from) || !isTray(to) || place < 0 || at < 0 || many < 0) {
                return WRONG_NUMBER;
            }
            if (isMissing(from) || isMissing(to)) {
                return TRAY_MISSING;
            }
            if (sorts[from] != sorts[to]) {
                return UNLIKE_SORTS;
            }
            // As long, for the sums of two great ints would turn below 0.
            boolean enough = (long) place + many <= lengths[from] && (long) at + many <= lengths[to];
            return enough ? FINE : NO_SUCH_PLACE;
        }

        void move(int from, int place, int to, int at, int many) {
            System.arraycopy(rows[from], place, rows[to], at, many);
        }

        private static long cut(long v, int sort) {
            switch (sort) {
                case 0: return (byte) v;
                case 1: return (short) v;
                case 2: return (int) v;
                default: return v;
            }
        }
    }

    /** The boat with all that became of it; sets are numbers, 1 for the first. */
    private static final class Boat {
        static final long NAMELESS = 0;

        int plank;
        int habit;
        int odds;
        int calls;
        int omens;
        int people;
        int shown;
        int aboard;
        final int[] pull = new int[MOST_OMENS];
        final long[] omenNames = new long[MOST_OMENS];
        final int[] hold = new int[MOST_PEOPLE];
        final int[] sat = new int[MOST_PEOPLE];
        final int[] excused = new int[MOST_PEOPLE];
        final int[] sees = new int[MOST_PEOPLE];
        final long[] personNames = new long[MOST_PEOPLE];
        // What all need by the omens measured latest: they are asked for in every round.
        private final int[] needs = new int[MOST_PEOPLE];

        Boat() {
            empty();
        }

        void empty() {
            plank = 4;
            habit = 1;
            odds = 12;
            calls = 0;
            omens = 0;
            people = 0;
            shown = 0;
            aboard = 0;
        }

        void copyFrom(Boat other) {
            plank = other.plank;
            habit = other.habit;
            odds = other.odds;
            calls = other.calls;
            omens = other.omens;
            people = other.people;
            shown = other.shown;
            aboard = other.aboard;
            System.arraycopy(other.pull, 0, pull, 0, MOST_OMENS);
            System.arraycopy(other.omenNames, 0, omenNames, 0, MOST_OMENS);
            System.arraycopy(other.hold, 0, hold, 0, MOST_PEOPLE);
            System.arraycopy(other.sat, 0, sat, 0, MOST_PEOPLE);
            System.arraycopy(other.excused, 0, excused, 0, MOST_PEOPLE);
            System.arraycopy(other.sees, 0, sees, 0, MOST_PEOPLE);
            System.arraycopy(other.personNames, 0, personNames, 0, MOST_PEOPLE);
        }

        boolean isOmen(int o) {
            return o >= 0 && o < omens;
        }

        boolean isPerson(int p) {
            return p >= 0 && p < people;
        }

        boolean isOmenSet(long set) {
            return set >= 0 && set < 1 << omens;
        }

        boolean isPeopleSet(long set) {
            return set >= 0 && set < 1 << people;
        }

        boolean isAboard(int p) {
            return (aboard >> p & 1) != 0;
        }

        int outNow() {
            return ~aboard & (1 << people) - 1;
        }

        int omenNamed(long name) {
            for (int o = 0; o < omens; o++) {
                if (omenNames[o] == name) {
                    return o;
                }
            }
            return NONE;
        }

        int personNamed(long name) {
            for (int p = 0; p < people; p++) {
                if (personNames[p] == name) {
                    return p;
                }
            }
            return NONE;
        }

        int addOmen(long name, int strength) {
            if (omens >= MOST_OMENS) {
                return NONE;
            }
            pull[omens] = strength;
            omenNames[omens] = name;
            omens++;
            return omens - 1;
        }

        int addPerson(long name, int holding) {
            if (people >= MOST_PEOPLE) {
                return NONE;
            }
            int p = people;
            hold[p] = holding;
            sat[p] = 0;
            excused[p] = 0;
            personNames[p] = name;
            sees[p] = (1 << p) - 1;
            for (int other = 0; other < p; other++) {
                sees[other] |= 1 << p;
            }
            aboard |= 1 << p;
            people++;
            return p;
        }

        /** Plank, habit, odds by the numbers under which they are told; false if it can't be so much. */
        boolean setRule(int what, int much) {
            if (what == 2 && much >= 1 && much <= MOST_PLANK) {
                plank = much;
                return true;
            }
            if (what == 3 && much >= 0 && much <= MOST_HABIT) {
                habit = much;
                return true;
            }
            if (what == 4 && much >= 0 && much <= MOST_ODDS) {
                odds = much;
                return true;
            }
            return false;
        }

        int satInAll() {
            int sum = 0;
            for (int p = 0; p < people; p++) {
                sum += sat[p];
            }
            return sum;
        }

        int excusedFrom(int o) {
            int set = 0;
            for (int p = 0; p < people; p++) {
                set |= (excused[p] >> o & 1) << p;
            }
            return set;
        }

        int seenBy(int p) {
            int set = 0;
            for (int other = 0; other < people; other++) {
                set |= (sees[other] >> p & 1) << other;
            }
            return set;
        }

        /** False if it is so already. */
        boolean turnOmen(int o, boolean is) {
            if ((shown >> o & 1) != 0 == is) {
                return false;
            }
            shown ^= 1 << o;
            return true;
        }

        /** False if he is on board already. */
        boolean takeAboard(int p) {
            if (isAboard(p)) {
                return false;
            }
            aboard |= 1 << p;
            return true;
        }

        /** False if he holds so much already. */
        boolean swayTo(int p, int holding) {
            if (!isPerson(p) || hold[p] == holding) {
                return false;
            }
            hold[p] = holding;
            return true;
        }

        int needWith(int holding, int p, int set) {
            int felt = set & ~excused[p];
            int left = holding;
            for (int o = 0; o < omens; o++) {
                if ((felt >> o & 1) != 0) {
                    left -= pull[o];
                }
            }
            return left > 0 ? left : 0;
        }

        int needBy(int p, int set) {
            return needWith(hold[p], p, set);
        }

        void measureNeeds(int set) {
            for (int p = 0; p < people; p++) {
                needs[p] = needWith(hold[p], p, set);
            }
        }

        /** Those of a company who see as many others of those up as they need, by the needs measured. */
        int content(int company, int up) {
            int set = 0;
            for (int p = 0; p < people; p++) {
                if ((company >> p & 1) != 0 && Integer.bitCount(sees[p] & up) >= needs[p]) {
                    set |= 1 << p;
                }
            }
            return set;
        }

        /** Who is up behind so many rounds, if those told are up ahead of the first. */
        int upBehind(int company, int up, int most) {
            int now = up;
            for (int round = 0; round < most; round++) {
                int next = now | content(company, now);
                if (next == now) {
                    break;
                }
                now = next;
            }
            return now;
        }

        /** Who of a company gets out by a call, if none but they are on board. */
        int outOf(int company, int set) {
            measureNeeds(set);
            return upBehind(company, 0, plank);
        }

        boolean mayCall() {
            return calls < MOST_CALLS;
        }

        int makeCall() {
            measureNeeds(shown);
            int out = upBehind(aboard, 0, plank);
            aboard &= ~out;
            for (int p = 0; p < people; p++) {
                if (isAboard(p)) {
                    hold[p] = Math.min(hold[p] + habit, MOST_HOLD);
                    sat[p]++;
                }
            }
            calls++;
            return out;
        }
    }

    /** What would be on a boat: it is asked, never changed. */
    private static final class Study {
        private static final int OMEN_SETS = 1 << MOST_OMENS;

        private final Boat boat;
        // What each set of omens is worth in a game, and what it becomes by one turn more ahead.
        private final int[] worth = new int[OMEN_SETS];
        private final int[] worthAhead = new int[OMEN_SETS];

        Study(Boat boat) {
            this.boat = boat;
        }

        int roundOfRising(int p, int omens) {
            boat.measureNeeds(omens);
            int up = 0;
            for (int round = 1; round <= boat.people; round++) {
                up |= boat.content(boat.aboard, up);
                if ((up >> p & 1) != 0) {
                    return round;
                }
            }
            return NONE;
        }

        int restSet(int omens) {
            boat.measureNeeds(omens);
            return boat.upBehind(boat.aboard, 0, boat.people);
        }

        int roundsToRest(int omens) {
            boat.measureNeeds(omens);
            int up = 0;
            for (int round = 0; round < boat.people; round++) {
                int next = up | boat.content(boat.aboard, up);
                if (next == up) {
                    return round;
                }
                up = next;
            }
            return boat.people;
        }

        boolean isRest(int set, int omens) {
            boat.measureNeeds(omens);
            return boat.content(boat.aboard, set) == set;
        }

        int countRests(int omens) {
            boat.measureNeeds(omens);
            int count = 0;
            for (int set = 0; set < 1 << boat.people; set++) {
                if (boat.content(boat.aboard, set) == set) {
                    count++;
                }
            }
            return count;
        }

        /** All start up, and those sit down who see too few, until nobody does: what stays has every rest in it. */
        int greatestRest(int omens) {
            boat.measureNeeds(omens);
            int up = boat.aboard;
            for (int i = 0; i < boat.people; i++) {
                up = boat.content(boat.aboard, up);
            }
            return up;
        }

        int fewestSeeds(int omens) {
            boat.measureNeeds(omens);
            int fewest = boat.aboard;
            for (int set = 0; set < 1 << boat.people; set++) {
                if ((set & ~boat.aboard) == 0 && isSmaller(set, fewest)
                        && boat.upBehind(boat.aboard, set, boat.people) == boat.aboard) {
                    fewest = set;
                }
            }
            return fewest;
        }

        private static boolean isSmaller(int set, int other) {
            return Integer.bitCount(set) < Integer.bitCount(other);
        }

        int weightOf(int p, int omens) {
            int others = boat.aboard & ~(1 << p);
            int with = boat.outOf(boat.aboard, omens) & others;
            int without = boat.outOf(others, omens);
            return Integer.bitCount(with) - Integer.bitCount(without);
        }

        int heaviest(int omens) {
            int found = NONE;
            int most = NONE;
            for (int p = 0; p < boat.people; p++) {
                int weighs = boat.isAboard(p) ? weightOf(p, omens) : NONE;
                if (weighs > most) {
                    most = weighs;
                    found = p;
                }
            }
            return found;
        }

        int countOut(int omens) {
            return Integer.bitCount(boat.outOf(boat.aboard, omens));
        }

        int fewestLures(int p) {
            int fewest = NONE;
            for (int set = 0; set < 1 << boat.omens; set++) {
                if ((fewest == NONE || isSmaller(set, fewest)) && (boat.outOf(boat.aboard, set) >> p & 1) != 0) {
                    fewest = set;
                }
            }
            return fewest;
        }

        int bestOmens() {
            int found = 0;
            int most = NONE;
            for (int set = 0; set < 1 << boat.omens; set++) {
                int out = countOut(set);
                if (out > most || out == most && isSmaller(set, found)) {
                    most = out;
                    found = set;
                }
            }
            return found;
        }

        /** Omens only pull, so who does not get out by all of them gets out by none. */
        int neverOut() {
            int all = (1 << boat.omens) - 1;
            return boat.aboard & ~boat.outOf(boat.aboard, all);
        }

        /** The omen that parts so many holds of a person the best. */
        int partingOmen(int p, int holds, int many) {
            int found = NONE;
            int least = many + 1;
            for (int o = 0; o < boat.omens; o++) {
                int rising = 0;
                for (int hold = 0; hold <= MOST_HOLD; hold++) {
                    if ((holds >> hold & 1) != 0 && boat.needWith(hold, p, 1 << o) == 0) {
                        rising++;
                    }
                }
                int greater = Math.max(rising, many - rising);
                if (greater < least) {
                    least = greater;
                    found = o;
                }
            }
            return found;
        }

        int fewestLookouts() {
            int fewest = boat.aboard;
            for (int set = 0; set < 1 << boat.people; set++) {
                if ((set & ~boat.aboard) == 0 && isSmaller(set, fewest) && areLookouts(set)) {
                    fewest = set;
                }
            }
            return fewest;
        }

        private boolean areLookouts(int set) {
            int others = boat.aboard & ~set;
            for (int p = 0; p < boat.people; p++) {
                if ((others >> p & 1) != 0 && (boat.sees[p] & set) == 0) {
                    return false;
                }
            }
            return true;
        }

        int countCouples() {
            int count = 0;
            for (int p = 0; p < boat.people; p++) {
                if (boat.isAboard(p)) {
                    int later = boat.aboard & ~((1 << p + 1) - 1);
                    count += Integer.bitCount(boat.sees[p] & boat.seenBy(p) & later);
                }
            }
            return count;
        }

        /** Finds what each set of omens is worth ahead of the first of the turns left; the odd turns are the captain's. */
        void playFrom(int first, int last) {
            for (int set = 0; set < 1 << boat.omens; set++) {
                worth[set] = countOut(set);
            }
            for (int turn = last; turn >= first; turn--) {
                playTurn(turn % 2 != 0);
            }
        }

        private void playTurn(boolean captains) {
            int sets = 1 << boat.omens;
            for (int set = 0; set < sets; set++) {
                int value = worth[set];
                for (int o = 0; o < boat.omens; o++) {
                    int turned = worth[set ^ 1 << o];
                    value = captains ? Math.max(value, turned) : Math.min(value, turned);
                }
                worthAhead[set] = value;
            }
            System.arraycopy(worthAhead, 0, worth, 0, sets);
        }

        int worthNow() {
            return worth[boat.shown];
        }

        /** The first of the best omens by what the turns behind it are worth; none unless one is better than none. */
        int captainsMove() {
            int found = NONE;
            int most = worth[boat.shown];
            for (int o = 0; o < boat.omens; o++) {
                int value = worth[boat.shown ^ 1 << o];
                if (value > most || value == most && found == NONE) {
                    most = value;
                    found = o;
                }
            }
            return found;
        }
    }

    /** The text that is read, cut to tokens, and the fault found in it. */
    private static final class Tokens {
        static final int WORD = 0;
        static final int NUMBER = 1;
        static final int SIGN = 2;
        static final int TEXT_END = 3;
        private static final int MOST_LETTERS = 8;
        private static final int MOST_DIGITS = 4;

        private final int[] text;
        private final long[] keywordCodes = new long[KEYWORD_COUNT];
        private int length;
        private int next;
        private int start;
        private int kind;
        // A number's value, a sign's byte.
        int value;
        // Letters by 5 bits each; 0 for a word that is too long for a name.
        long code;
        int keyword;
        int faultKind = NONE;
        int faultPlace = NONE;

        Tokens(int[] text) {
            this.text = text;
            int word = 0;
            for (int i = 0; i < KEYWORDS.length() && word < KEYWORD_COUNT; i++) {
                char c = KEYWORDS.charAt(i);
                if (c == ' ') {
                    word++;
                } else {
                    keywordCodes[word] = keywordCodes[word] * 32 + (c - 'a' + 1);
                }
            }
        }

        void begin(int many) {
            length = many;
            next = 0;
            faultKind = 0;
            faultPlace = NONE;
        }

        /** Notes a fault at the present token; false, so that a reader can give it back. */
        boolean fail(int fault) {
            faultKind = fault;
            faultPlace = start;
            return false;
        }

        /** Goes on to the next token; false if none begins there. */
        boolean advance() {
            while (next < length && (text[next] == ' ' || text[next] == '\n')) {
                next++;
            }
            start = next;
            keyword = NONE;
            code = 0;
            value = 0;
            if (next >= length) {
                kind = TEXT_END;
                return true;
            }
            int c = text[next];
            if (c >= 'a' && c <= 'z') {
                takeWord();
                return true;
            }
            if (c >= '0' && c <= '9') {
                return takeNumber();
            }
            if (c == ';' || c == '<' || c == '>' || c == '=') {
                kind = SIGN;
                value = c;
                next++;
                return true;
            }
            return fail(FAULT_TOKEN);
        }

        private void takeWord() {
            kind = WORD;
            while (next < length && text[next] >= 'a' && text[next] <= 'z') {
                code = code * 32 + (text[next] - 'a' + 1);
                next++;
            }
            if (next - start > MOST_LETTERS) {
                code = 0;
            }
            for (int i = 0; i < KEYWORD_COUNT; i++) {
                if (code == keywordCodes[i]) {
                    keyword = i;
                }
            }
        }

        private boolean takeNumber() {
            kind = NUMBER;
            while (next < length && text[next] >= '0' && text[next] <= '9') {
                value = value * 10 + (text[next] - '0');
                next++;
            }
            return next - start <= MOST_DIGITS || fail(FAULT_TOKEN);
        }

        boolean isEnd() {
            return kind == TEXT_END;
        }

        boolean isName() {
            return kind == WORD && keyword == NONE && code != 0;
        }

        boolean isCompare() {
            return kind == SIGN && value != ';';
        }

        boolean isStop() {
            return kind == SIGN && value == ';';
        }

        boolean wantName() {
            return advance() && (isName() || fail(FAULT_STAND));
        }

        boolean wantKeyword(int which) {
            return advance() && (keyword == which || fail(FAULT_STAND));
        }

        boolean wantStop() {
            return advance() && (isStop() || fail(FAULT_STAND));
        }

        boolean wantNumber(int least, int most) {
            if (!advance()) {
                return false;
            }
            if (kind != NUMBER) {
                return fail(FAULT_STAND);
            }
            return value >= least && value <= most || fail(FAULT_NUMBER);
        }
    }

    /** Reads a boat's text. */
    private static final class BoatReader {
        private final Tokens tokens;
        private final Boat boat;
        private int rulesTold;

        BoatReader(Tokens tokens, Boat boat) {
            this.tokens = tokens;
            this.boat = boat;
        }

        boolean readText(int many) {
            tokens.begin(many);
            boat.empty();
            rulesTold = 0;
            for (int parts = 0; parts <= many; parts++) {
                if (!tokens.advance()) {
                    return false;
                }
                if (tokens.isEnd()) {
                    return true;
                }
                if (!readPart()) {
                    return false;
                }
            }
            return false;
        }

        private boolean readPart() {
            switch (tokens.keyword) {
                case WORD_PLANK: return readRule(2, 1, MOST_PLANK);
                case WORD_HABIT: return readRule(3, 0, MOST_HABIT);
                case WORD_ODDS: return readRule(4, 0, MOST_ODDS);
                case WORD_SIGN: return readSign();
                case WORD_PERSON: return readPerson();
                case WORD_BLIND: return readBlind();
                default: return tokens.fail(FAULT_STAND);
            }
        }

        private boolean readRule(int what, int least, int most) {
            if ((rulesTold >> what & 1) != 0) {
                return tokens.fail(FAULT_AGAIN);
            }
            rulesTold |= 1 << what;
            return tokens.wantNumber(least, most) && boat.setRule(what, tokens.value) && tokens.wantStop();
        }

        private boolean isTaken(long name) {
            return boat.omenNamed(name) != NONE || boat.personNamed(name) != NONE;
        }

        private boolean readSign() {
            if (boat.omens >= MOST_OMENS) {
                return tokens.fail(FAULT_MANY);
            }
            if (!tokens.wantName()) {
                return false;
            }
            long name = tokens.code;
            if (isTaken(name)) {
                return tokens.fail(FAULT_NAME);
            }
            if (!tokens.wantKeyword(WORD_PULLS) || !tokens.wantNumber(1, MOST_PULL)) {
                return false;
            }
            int omen = boat.addOmen(name, tokens.value);
            if (!tokens.advance()) {
                return false;
            }
            if (tokens.keyword == WORD_SHOWN) {
                boat.shown |= 1 << omen;
                return tokens.wantStop();
            }
            return tokens.isStop() || tokens.fail(FAULT_STAND);
        }

        private boolean readPerson() {
            if (boat.people >= MOST_PEOPLE) {
                return tokens.fail(FAULT_MANY);
            }
            if (!tokens.wantName()) {
                return false;
            }
            long name = tokens.code;
            if (isTaken(name)) {
                return tokens.fail(FAULT_NAME);
            }
            if (!tokens.wantKeyword(WORD_HOLDS) || !tokens.wantNumber(0, MOST_HOLD)) {
                return false;
            }
            int person = boat.addPerson(name, tokens.value);
            if (!tokens.advance()) {
                return false;
            }
            if (tokens.keyword == WORD_OUT) {
                boat.aboard &= ~(1 << person);
                if (!tokens.advance()) {
                    return false;
                }
            }
            if (tokens.keyword == WORD_AGAINST) {
                return readExcuses(person);
            }
            return tokens.isStop() || tokens.fail(FAULT_STAND);
        }

        /** Each omen stands there once at most, so behind as many names as there are omens comes the end or a fault. */
        private boolean readExcuses(int person) {
            for (int i = 0; i <= MOST_OMENS; i++) {
                if (!tokens.advance()) {
                    return false;
                }
                if (tokens.isStop()) {
                    return true;
                }
                if (!tokens.isName()) {
                    return tokens.fail(FAULT_STAND);
                }
                int omen = boat.omenNamed(tokens.code);
                if (omen == NONE) {
                    return tokens.fail(FAULT_NAME);
                }
                if ((boat.excused[person] >> omen & 1) != 0) {
                    return tokens.fail(FAULT_AGAIN);
                }
                boat.excused[person] |= 1 << omen;
            }
            return false;
        }

        private boolean readBlind() {
            if (!tokens.wantName()) {
                return false;
            }
            int person = boat.personNamed(tokens.code);
            if (person == NONE) {
                return tokens.fail(FAULT_NAME);
            }
            if (!tokens.wantName()) {
                return false;
            }
            int other = boat.personNamed(tokens.code);
            if (other == NONE) {
                return tokens.fail(FAULT_NAME);
            }
            if (other == person) {
                return tokens.fail(FAULT_AGAIN);
            }
            boat.sees[person] &= ~(1 << other);
            return tokens.wantStop();
        }
    }

    /** The years as rows: one entry for each step and for each end, in the text's order. */
    private static final class Years {
        static final int MOST_STEPS = 30;
        static final int ENTRIES = 2 * MOST_STEPS;

        boolean isTold;
        int steps;
        int entries;
        final int[] words = new int[ENTRIES];
        // The word of a test behind when, and the sign by which holds are compared.
        final int[] tests = new int[ENTRIES];
        final int[] signs = new int[ENTRIES];
        // The omen or person, and the number.
        final int[] things = new int[ENTRIES];
        final int[] numbers = new int[ENTRIES];
        // For when and loop their end, for an end its when or loop.
        final int[] partners = new int[ENTRIES];

        void forget() {
            isTold = false;
            steps = 0;
            entries = 0;
        }

        void copyFrom(Years other) {
            isTold = other.isTold;
            steps = other.steps;
            entries = other.entries;
            System.arraycopy(other.words, 0, words, 0, entries);
            System.arraycopy(other.tests, 0, tests, 0, entries);
            System.arraycopy(other.signs, 0, signs, 0, entries);
            System.arraycopy(other.things, 0, things, 0, entries);
            System.arraycopy(other.numbers, 0, numbers, 0, entries);
            System.arraycopy(other.partners, 0, partners, 0, entries);
        }

        /** NONE if there is no room, which thirty steps with an end each never need. */
        int add(int word) {
            if (entries >= ENTRIES) {
                return NONE;
            }
            words[entries] = word;
            tests[entries] = NONE;
            signs[entries] = NONE;
            things[entries] = NONE;
            numbers[entries] = 0;
            partners[entries] = NONE;
            entries++;
            return entries - 1;
        }
    }

    /** Reads the text of years, whose names are those of the present boat. */
    private static final class YearsReader {
        private static final int MOST_DEPTH = 3;
        private static final int MOST_TIMES = 99;

        private final Tokens tokens;
        private final Years years;
        private final Boat boat;
        private final int[] open = new int[MOST_DEPTH];
        private int depth;

        YearsReader(Tokens tokens, Years years, Boat boat) {
            this.tokens = tokens;
            this.years = years;
            this.boat = boat;
        }

        boolean readText(int many) {
            tokens.begin(many);
            years.forget();
            years.isTold = true;
            depth = 0;
            for (int parts = 0; parts <= many; parts++) {
                if (!tokens.advance()) {
                    return false;
                }
                if (tokens.isEnd()) {
                    return depth == 0 || tokens.fail(FAULT_STAND);
                }
                int word = tokens.keyword;
                int place = years.entries;
                boolean good = word == WORD_END ? closeBlock() : addStep(word);
                if (good) {
                    good = word == WORD_WHEN ? readTest(place) : readDetails(word, place);
                }
                if (!good || !tokens.wantStop()) {
                    return false;
                }
            }
            return false;
        }

        private boolean closeBlock() {
            int end = depth > 0 ? years.add(WORD_END) : NONE;
            if (end == NONE) {
                return tokens.fail(FAULT_STAND);
            }
            depth--;
            years.partners[end] = open[depth];
            years.partners[open[depth]] = end;
            return true;
        }

        private boolean addStep(int word) {
            boolean isStep = word >= WORD_CALL && word != WORD_SHOWS;
            if (!isStep) {
                return tokens.fail(FAULT_STAND);
            }
            int step = years.steps < Years.MOST_STEPS ? years.add(word) : NONE;
            if (step == NONE) {
                return tokens.fail(FAULT_MANY);
            }
            years.steps++;
            if (word == WORD_WHEN || word == WORD_LOOP) {
                if (depth >= MOST_DEPTH) {
                    return tokens.fail(FAULT_DEEP);
                }
                open[depth] = step;
                depth++;
            }
            return true;
        }

        private boolean readDetails(int word, int step) {
            switch (word) {
                case WORD_SHOW:
                case WORD_HIDE: return readOmen(step);
                case WORD_BOARD: return readPerson(step);
                case WORD_SWAY: return readPerson(step) && readNumber(step, 0, MOST_HOLD);
                case WORD_LOOP: return readNumber(step, 1, MOST_TIMES);
                default: return true;
            }
        }

        private boolean readTest(int step) {
            if (!tokens.advance()) {
                return false;
            }
            years.tests[step] = tokens.keyword;
            switch (tokens.keyword) {
                case WORD_OUT: return readPerson(step);
                case WORD_SHOWS: return readOmen(step);
                case WORD_HOLDS: return readPerson(step) && readCompare(step) && readNumber(step, 0, MOST_HOLD);
                default: return tokens.fail(FAULT_STAND);
            }
        }

        private boolean readOmen(int step) {
            if (!tokens.wantName()) {
                return false;
            }
            int omen = boat.omenNamed(tokens.code);
            years.things[step] = omen;
            return omen != NONE || tokens.fail(FAULT_NAME);
        }

        private boolean readPerson(int step) {
            if (!tokens.wantName()) {
                return false;
            }
            int person = boat.personNamed(tokens.code);
            years.things[step] = person;
            return person != NONE || tokens.fail(FAULT_NAME);
        }

        private boolean readCompare(int step) {
            if (!tokens.advance()) {
                return false;
            }
            years.signs[step] = tokens.value;
            return tokens.isCompare() || tokens.fail(FAULT_STAND);
        }

        private boolean readNumber(int step, int least, int most) {
            if (!tokens.wantNumber(least, most)) {
                return false;
            }
            years.numbers[step] = tokens.value;
            return true;
        }
    }

    /** One run of years over a boat, and what it came to. */
    private static final class Life {
        private static final int MOST_STEPS = 300;
        // Far above what 300 steps with the ends between them can need.
        private static final int MOST_MOVES = 100000;

        boolean wasRun;
        int steps;
        int missed;
        int callsMade;
        int gotOut;
        int satOn;
        boolean cutShort;
        private int chance;
        private final int[] timesLeft = new int[Years.ENTRIES];

        void run(Boat boat, Years years, int seed) {
            wasRun = true;
            steps = 0;
            missed = 0;
            callsMade = 0;
            gotOut = 0;
            satOn = 0;
            cutShort = false;
            chance = seed;
            int at = 0;
            for (int i = 0; i < MOST_MOVES && at < years.entries; i++) {
                if (years.words[at] == WORD_END) {
                    at = behindEnd(years, at);
                } else if (steps >= MOST_STEPS) {
                    cutShort = true;
                    return;
                } else {
                    steps++;
                    at = doStep(boat, years, at);
                }
            }
        }

        private int behindEnd(Years years, int end) {
            int begin = years.partners[end];
            if (begin >= 0 && years.words[begin] == WORD_LOOP) {
                timesLeft[begin]--;
                // An empty loop has nothing to go back to.
                if (timesLeft[begin] > 0 && begin + 1 < end) {
                    return begin + 1;
                }
            }
            return end + 1;
        }

        /** Does a step and tells which entry comes behind it. */
        private int doStep(Boat boat, Years years, int at) {
            int thing = years.things[at];
            int number = years.numbers[at];
            switch (years.words[at]) {
                case WORD_CALL:
                    tryCall(boat, true);
                    break;
                case WORD_ANY:
                    tryCall(boat, drawBelow(boat.odds));
                    break;
                case WORD_SHOW:
                    count(boat.turnOmen(thing, true));
                    break;
                case WORD_HIDE:
                    count(boat.turnOmen(thing, false));
                    break;
                case WORD_BOARD:
                    count(boat.takeAboard(thing));
                    break;
                case WORD_SWAY:
                    count(boat.swayTo(thing, number));
                    break;
                case WORD_WHEN:
                    return holdsTrue(boat, years, at) ? at + 1 : years.partners[at] + 1;
                case WORD_LOOP:
                    timesLeft[at] = number;
                    break;
                case WORD_STOP:
                    return years.entries;
                default:
                    break;
            }
            return at + 1;
        }

        private void count(boolean changed) {
            if (!changed) {
                missed++;
            }
        }

        private void tryCall(Boat boat, boolean tide) {
            if (!tide || !boat.mayCall()) {
                missed++;
                return;
            }
            gotOut += Integer.bitCount(boat.makeCall());
            satOn += Integer.bitCount(boat.aboard);
            callsMade++;
        }

        private boolean drawBelow(int odds) {
            chance = (chance * 3167 + 11383) % 65536;
            return chance / 8 % MOST_ODDS < odds;
        }

        private static boolean holdsTrue(Boat boat, Years years, int at) {
            int thing = years.things[at];
            int number = years.numbers[at];
            if (years.tests[at] == WORD_OUT) {
                return !boat.isAboard(thing);
            }
            if (years.tests[at] == WORD_SHOWS) {
                return (boat.shown >> thing & 1) != 0;
            }
            int held = boat.isPerson(thing) ? boat.hold[thing] : NONE;
            if (years.signs[at] == '<') {
                return held < number;
            }
            if (years.signs[at] == '>') {
                return held > number;
            }
            return held == number;
        }
    }
}
