import java.util.Arrays;

/** A line of stations on which things are left in trains on purpose: see README.md and the document's promises. */
public final class GampLine {
    public static final int NONE = -1;

    private static final int NO_SUCH = -2;
    private static final int CANNOT_BE = -3;
    private static final int TOO_MANY = -4;
    private static final int NOT_NOW = -5;
    private static final int MISSING = -6;
    private static final int NO_NUMBER = -7;
    private static final int WHY_BASE = -10;
    private static final int FAULT_BASE = -30;
    private static final int FAR_NO_SUCH = -99000002;
    private static final int FAR_CANNOT_BE = -99000003;

    private static final int TAPE_SIZE = 900;
    private static final int MAX_STATIONS = 8;
    private static final int MAX_THINGS = 8;
    private static final int MAX_PEOPLE = 6;
    private static final int MARKS = 10;
    private static final int SETS = 256;
    private static final int MAX_BEARS = 99;
    private static final int HELD = 10;
    private static final int OFFICE = 99;
    private static final int TRAYS = 4;
    private static final int TRAY_SIZE = 40;
    private static final int SORTS = 4;
    private static final int IMAGES = 2;
    private static final int UNDOS = 10;
    private static final int MOST_DAYS = 99;
    private static final int MOST_TIMES = 40;
    private static final int MOST_PLANNED = 3;
    private static final int MOST_ANSWERS = 16;
    private static final int MOST_CHANCES = 10;
    private static final int WHY_NO_SUCH = 1;
    private static final int WHY_HANDS = 2;
    private static final int WHY_REFUSED = 3;

    private final Reader reader = new Reader();
    private final Line line = new Line();
    private final State now = new State();
    private final State trial = new State();
    private final State[] past = new State[UNDOS];
    private int pastNext;
    private int pastCount;
    private final Tray[] trays = new Tray[TRAYS];
    private final Line[] imageLines = new Line[IMAGES];
    private final State[] imageStates = new State[IMAGES];
    private int imagesMade;
    private final Claims claims = new Claims();
    private final Left left = new Left();
    private final Whose whose = new Whose();
    private final Trades trades = new Trades();
    private final Opener opener = new Opener();
    private final Odds odds = new Odds();

    public GampLine() {
        for (int i = 0; i < UNDOS; i++) {
            past[i] = new State();
        }
        for (int i = 0; i < TRAYS; i++) {
            trays[i] = new Tray();
        }
        for (int i = 0; i < IMAGES; i++) {
            imageLines[i] = new Line();
            imageStates[i] = new State();
        }
    }

    // ---- the line

    public int feed(int a, int b, int c, int d, int e) {
        if (reader.tapeSize + 20 > TAPE_SIZE) {
            return NOT_NOW;
        }
        reader.append(a);
        reader.append(b);
        reader.append(c);
        reader.append(d);
        reader.append(e);
        return reader.tapeSize;
    }

    public int line(int n) {
        if (n < 0 || n > reader.tapeSize) {
            return CANNOT_BE;
        }
        reader.begin(n);
        for (int i = 0; i < TAPE_SIZE && reader.goesOn(); i++) {
            reader.readLine();
        }
        if (reader.fault != 0) {
            return FAULT_BASE - reader.fault;
        }
        line.become(reader.told);
        now.begin(line);
        forgetPast();
        return line.lines;
    }

    public int fault(int what) {
        if (what == 0) {
            return reader.fault;
        }
        return what == 1 ? reader.faultAt : NONE;
    }

    public int thing(int t, int what) {
        if (!line.hasThing(t)) {
            return NO_SUCH;
        }
        switch (what) {
            case 0:
                return now.where[t];
            case 1:
                return line.hue[t];
            case 2:
                return line.weight[t];
            case 3:
                return now.opened[t];
            default:
                return NO_SUCH;
        }
    }

    public int person(int p, int what) {
        if (!line.hasPerson(p)) {
            return NO_SUCH;
        }
        switch (what) {
            case 0:
                return line.home[p];
            case 1:
                return now.mark[p];
            case 2:
                return line.bears[p];
            case 3:
                return now.heldThing(p);
            case 4:
                return now.borne[p];
            default:
                return NO_SUCH;
        }
    }

    public int claims(int p, int t) {
        if (!line.hasPerson(p) || !line.hasThing(t)) {
            return FAR_NO_SUCH;
        }
        return line.claimBy(now.mark[p], p, t);
    }

    public int burden(int p, int t) {
        if (!line.hasPerson(p) || !line.hasThing(t)) {
            return NO_SUCH;
        }
        return line.burdenOf(now.mark[p], p, t, now.wet, now.borne[p]);
    }

    // ---- deeds

    public int seed(int n) {
        int was = now.x;
        remember();
        now.x = n;
        return was;
    }

    public int leave(int p) {
        int t = now.heldThing(p);
        trial.become(now);
        int why = trial.tryLeave(line, p);
        return why != 0 ? WHY_BASE - why : agreed(t);
    }

    public int fetch(int p, int t) {
        trial.become(now);
        int why = trial.tryFetch(line, p, t);
        return why != 0 ? WHY_BASE - why : agreed(Integer.bitCount(trial.officeBits()));
    }

    public int open(int p) {
        trial.become(now);
        int why = trial.tryOpen(line, p);
        return why != 0 ? WHY_BASE - why : agreed(trial.borneBy(p));
    }

    public int swap(int p, int q) {
        trial.become(now);
        int why = trial.trySwap(line, p, q);
        return why != 0 ? WHY_BASE - why : agreed(trial.heldThing(p));
    }

    public int mark(int p, int n) {
        int was = now.markOf(p);
        trial.become(now);
        int why = trial.tryMark(line, p, n);
        return why != 0 ? WHY_BASE - why : agreed(was);
    }

    public int days(int n) {
        if (n < 1 || n > MOST_DAYS) {
            return CANNOT_BE;
        }
        trial.become(now);
        int taken = 0;
        for (int i = 0; i < n; i++) {
            taken += trial.passDay(line);
        }
        return agreed(taken);
    }

    public int undo(int n) {
        if (n < 1 || n > UNDOS || n > pastCount) {
            return CANNOT_BE;
        }
        pastNext = Math.floorMod(pastNext - n, UNDOS);
        now.become(past[pastNext]);
        pastCount -= n;
        return pastCount;
    }

    public int judge(int tray, int what) {
        if (!hasTray(tray) || what < 0 || what > 3) {
            return NO_SUCH;
        }
        if (trays[tray].isMissing()) {
            return MISSING;
        }
        trial.become(now);
        int done = trial.doAll(line, trays[tray]);
        switch (what) {
            case 0:
                return trial.why != 0 ? done : NONE;
            case 1:
                return trial.why;
            case 2:
                return trial.holderBits();
            default:
                return Integer.bitCount(trial.officeBits());
        }
    }

    public int perform(int tray) {
        int code = trayCode(tray);
        if (code != 0) {
            return code;
        }
        trial.become(now);
        int done = trial.doAll(line, trays[tray]);
        return done > 0 ? agreed(done) : 0;
    }

    public int season(int seed, int times) {
        if (times < 1 || times > MOST_TIMES) {
            return CANNOT_BE;
        }
        trial.become(now);
        trial.x = seed;
        int done = 0;
        for (int i = 0; i < times; i++) {
            if (trial.seasonDeed(line) == 0) {
                done++;
            }
        }
        return done > 0 ? agreed(done) : 0;
    }

    // ---- left

    public int goes(int t, int station) {
        return canBeLeft(t, station) ? left.taker[0] : NO_SUCH;
    }

    public int takes(int t, int station) {
        return canBeLeft(t, station) ? left.days[0] : NO_SUCH;
    }

    public int sources(int t, int p) {
        if (!line.hasThing(t) || !line.hasPerson(p)) {
            return NO_SUCH;
        }
        // The claims are the same from each station: they are gathered once.
        claims.gather(line, now);
        left.begin(now);
        left.add(t, now);
        int bits = 0;
        for (int station = 0; station < line.stations; station++) {
            left.start(0, station);
            left.travel(line, claims);
            if (left.taker[0] == p) {
                bits |= 1 << station;
            }
        }
        return bits;
    }

    public int plan(int tray, int i) {
        int code = planCode(tray);
        if (code != 0) {
            return code;
        }
        if (!trays[tray].hasPlace(i) || i >= MOST_PLANNED) {
            return NO_NUMBER;
        }
        beginPlan(trays[tray]);
        return left.searchPlans(line, claims, true) > 0 ? left.first[i] : NONE;
    }

    public int plans(int tray) {
        int code = planCode(tray);
        if (code != 0) {
            return code;
        }
        beginPlan(trays[tray]);
        return left.searchPlans(line, claims, false);
    }

    // ---- whose

    public int match(int what) {
        if (what != 0 && !line.hasPerson(what - 10)) {
            return NO_SUCH;
        }
        claims.gather(line, now);
        whose.weighMatchings(line, claims);
        return what == 0 ? whose.best[0] : whose.givenTo(what - 10, line, claims);
    }

    public int matchings() {
        claims.gather(line, now);
        return whose.waysForAll(line, claims);
    }

    public int without() {
        // As many as can be: whoever claims some thing is one of those served in some such way
        // (they are the bases of a matroid), so only who claims nothing is in none.
        claims.gather(line, now);
        int bits = 0;
        for (int p = 0; p < line.people; p++) {
            if (!claims.someBy(p, line.things)) {
                bits |= 1 << p;
            }
        }
        return bits;
    }

    public int fetches(int t, int what) {
        if (!line.hasThing(t) || what < 0 || what > 1) {
            return NO_SUCH;
        }
        claims.gather(line, now);
        int winner = claims.mostOf(t, line.people, NONE);
        if (what == 0 || winner == NONE) {
            return what == 0 ? winner : 0;
        }
        int second = claims.mostOf(t, line.people, winner);
        return second == NONE ? 0 : claims.of(second, t);
    }

    // ---- trades

    public int trade(int p) {
        if (!line.hasPerson(p)) {
            return NO_SUCH;
        }
        claims.gather(line, now);
        trades.run(line, now, claims);
        return trades.has[p];
    }

    public int rounds() {
        claims.gather(line, now);
        return trades.run(line, now, claims);
    }

    public int traders() {
        claims.gather(line, now);
        trades.run(line, now, claims);
        int bits = 0;
        for (int p = 0; p < line.people; p++) {
            if (trades.has[p] != trades.held[p]) {
                bits |= 1 << p;
            }
        }
        return bits;
    }

    public int bargain() {
        claims.gather(line, now);
        for (int p = 0; p < line.people; p++) {
            for (int q = p + 1; q < line.people; q++) {
                if (bothGain(p, q)) {
                    return 10 * p + q;
                }
            }
        }
        return NONE;
    }

    // ---- opening

    public int opening(int p, int set) {
        int code = openingCode(p, set);
        if (code != 0) {
            return code;
        }
        opener.begin(line, now, p);
        return opener.fewestDays(set);
    }

    public int openedBy(int p, int set, int i) {
        int code = openingCode(p, set);
        if (code != 0) {
            return code;
        }
        if (i < 0) {
            return CANNOT_BE;
        }
        opener.begin(line, now, p);
        return i < opener.findOrder(set) ? opener.orderAt(i) : NONE;
    }

    public int inADay(int p, int set) {
        int code = openingCode(p, set);
        if (code != 0) {
            return code;
        }
        opener.begin(line, now, p);
        return opener.mostInADay(set);
    }

    // ---- by what was claimed

    public int marks(int tray, int p) {
        int code = answersCode(tray, p);
        return code != 0 ? code : marksBy(trays[tray], p);
    }

    public int show(int tray, int p) {
        int code = answersCode(tray, p);
        if (code != 0) {
            return code;
        }
        int bits = marksBy(trays[tray], p);
        if (bits == 0) {
            return NONE;
        }
        int bestThing = NONE;
        int bestLesser = -1;
        for (int t = 0; t < line.things; t++) {
            int yes = 0;
            for (int m = 0; m < MARKS; m++) {
                if ((bits >> m & 1) == 1 && line.claimBy(m, p, t) > 0) {
                    yes++;
                }
            }
            int lesser = Math.min(yes, Integer.bitCount(bits) - yes);
            if (lesser > bestLesser) {
                bestLesser = lesser;
                bestThing = t;
            }
        }
        return bestThing;
    }

    // ---- choosing

    public int game(int p, int q, int set) {
        if (!canChoose(p, q)) {
            return FAR_NO_SUCH;
        }
        if (!line.hasSet(set)) {
            return FAR_CANNOT_BE;
        }
        claims.gather(line, now);
        whose.playOut(claims, p, q, set);
        return whose.best[set];
    }

    public int picks(int p, int q, int set) {
        if (!canChoose(p, q)) {
            return NO_SUCH;
        }
        if (!line.hasSet(set)) {
            return CANNOT_BE;
        }
        claims.gather(line, now);
        whose.playOut(claims, p, q, set);
        for (int t = 0; t < line.things; t++) {
            if ((set >> t & 1) == 1 && claims.of(p, t) + whose.best[set ^ 1 << t] == whose.best[set]) {
                return t;
            }
        }
        return NONE;
    }

    // ---- chances

    public long chance(int tray, int p, int what) {
        if (what < 0 || what > 1) {
            return NO_SUCH;
        }
        int code = chanceCode(tray, p);
        if (code != 0) {
            return code;
        }
        odds.spread(line, now, trays[tray], p);
        long above = odds.waysUpTo(line.bears[p]);
        long shared = Odds.commonDivisor(above, odds.ways);
        if (shared < 1) {
            return 0;
        }
        return what == 0 ? above / shared : odds.ways / shared;
    }

    public int bearing(int tray, int p, int m) {
        int code = chanceCode(tray, p);
        if (code != 0) {
            return code;
        }
        if (m < 0 || m > 100) {
            return CANNOT_BE;
        }
        odds.spread(line, now, trays[tray], p);
        return odds.leastFor(m);
    }

    // ---- trays, images

    public int numbers(int tray, int sort, int n) {
        if (!hasTray(tray) || sort < 0 || sort >= SORTS) {
            return NO_SUCH;
        }
        if (n < 0 || n > TRAY_SIZE) {
            return CANNOT_BE;
        }
        trays[tray].beginAnew(sort, n);
        return 0;
    }

    public long write(int tray, int i, long v) {
        int code = trayCode(tray);
        if (code != 0) {
            return code;
        }
        if (!trays[tray].hasPlace(i)) {
            return NO_NUMBER;
        }
        return trays[tray].put(i, v);
    }

    public int lists(int tray, int p, int set) {
        if (!hasTray(tray) || !line.hasPerson(p)) {
            return NO_SUCH;
        }
        Tray into = trays[tray];
        if (into.isMissing()) {
            return MISSING;
        }
        if (!line.hasSet(set)) {
            return CANNOT_BE;
        }
        opener.begin(line, now, p);
        int found = opener.findOrder(set);
        if (found < Integer.bitCount(set)) {
            return NOT_NOW;
        }
        int fits = Math.min(found, into.size);
        for (int i = 0; i < fits; i++) {
            into.put(i, opener.orderAt(i));
        }
        return fits;
    }

    public int image(int i) {
        if (i < 0 || i >= IMAGES) {
            return NO_SUCH;
        }
        imageLines[i].become(line);
        imageStates[i].become(now);
        imagesMade |= 1 << i;
        return 0;
    }

    public int restore(int i) {
        if (i < 0 || i >= IMAGES) {
            return NO_SUCH;
        }
        if ((imagesMade >> i & 1) == 0) {
            return NOT_NOW;
        }
        line.become(imageLines[i]);
        now.become(imageStates[i]);
        forgetPast();
        return 0;
    }

    public int count(int what) {
        switch (what) {
            case 0:
                return line.stations;
            case 1:
                return line.things;
            case 2:
                return line.people;
            case 3:
                return now.officeBits();
            case 4:
                return now.heldBits();
            case 5:
                return now.wet;
            case 6:
                return now.day;
            case 7:
                return pastCount;
            case 8:
                return reader.tapeSize;
            case 9:
                return line.lines;
            default:
                return NONE;
        }
    }

    // ---- what the calls share

    private void remember() {
        past[pastNext].become(now);
        pastNext = (pastNext + 1) % UNDOS;
        pastCount = Math.min(pastCount + 1, UNDOS);
    }

    private void forgetPast() {
        pastNext = 0;
        pastCount = 0;
    }

    /** The trial was good: it is what is now, and the call can be undone. */
    private int agreed(int answer) {
        remember();
        now.become(trial);
        return answer;
    }

    private boolean hasTray(int tray) {
        return tray >= 0 && tray < TRAYS;
    }

    private int trayCode(int tray) {
        if (!hasTray(tray)) {
            return NO_SUCH;
        }
        return trays[tray].isMissing() ? MISSING : 0;
    }

    /** Whether there are such a thing and such a station; if so, the thing has gone its way from there. */
    private boolean canBeLeft(int t, int station) {
        if (!line.hasThing(t) || !line.hasStation(station)) {
            return false;
        }
        claims.gather(line, now);
        left.begin(now);
        left.add(t, now);
        left.start(0, station);
        left.travel(line, claims);
        return true;
    }

    private int planCode(int tray) {
        int code = trayCode(tray);
        if (code != 0) {
            return code;
        }
        int size = trays[tray].size;
        if (size < 1 || size > MOST_PLANNED) {
            return TOO_MANY;
        }
        for (int i = 0; i < size; i++) {
            if (!canPlan(trays[tray], i)) {
                return CANNOT_BE;
            }
        }
        return 0;
    }

    private boolean canPlan(Tray tray, int i) {
        long v = tray.at(i);
        if (v < 0 || v / 10 >= line.things || v % 10 >= line.people) {
            return false;
        }
        for (int k = 0; k < i; k++) {
            long other = tray.at(k);
            if (other / 10 == v / 10 || other % 10 == v % 10) {
                return false;
            }
        }
        return true;
    }

    private void beginPlan(Tray tray) {
        claims.gather(line, now);
        left.begin(now);
        for (int i = 0; i < tray.size && i < MOST_PLANNED; i++) {
            left.add((int) (tray.at(i) / 10), now);
            left.wanted[i] = (int) (tray.at(i) % 10);
        }
    }

    private boolean bothGain(int p, int q) {
        int ofP = now.heldThing(p);
        int ofQ = now.heldThing(q);
        if (ofP == NONE || ofQ == NONE) {
            return false;
        }
        return claims.of(p, ofQ) > claims.of(p, ofP) && claims.of(q, ofP) > claims.of(q, ofQ);
    }

    private int openingCode(int p, int set) {
        if (!line.hasPerson(p)) {
            return NO_SUCH;
        }
        return line.hasSet(set) ? 0 : CANNOT_BE;
    }

    private int answersCode(int tray, int p) {
        if (!hasTray(tray) || !line.hasPerson(p)) {
            return NO_SUCH;
        }
        return trays[tray].codeForNumbers(MOST_ANSWERS, 2 * line.things);
    }

    private int chanceCode(int tray, int p) {
        if (!hasTray(tray) || !line.hasPerson(p)) {
            return NO_SUCH;
        }
        return trays[tray].codeForNumbers(MOST_CHANCES, line.things);
    }

    private int marksBy(Tray answers, int p) {
        int bits = 0;
        for (int m = 0; m < MARKS; m++) {
            if (wouldAnswer(answers, p, m)) {
                bits |= 1 << m;
            }
        }
        return bits;
    }

    private boolean wouldAnswer(Tray answers, int p, int mark) {
        for (int i = 0; i < answers.size; i++) {
            int v = (int) answers.at(i);
            boolean would = line.claimBy(mark, p, v >> 1) > 0;
            if (would != ((v & 1) == 1)) {
                return false;
            }
        }
        return true;
    }

    private boolean canChoose(int p, int q) {
        return line.hasPerson(p) && line.hasPerson(q) && p != q;
    }

    /** The two laws as steps for a stack, told one behind the other in one row. */
    private static final class Laws {
        static final int PUSH = 0;
        static final int FACT = 1;
        static final int ADD = 2;
        static final int SUBTRACT = 3;
        static final int MULTIPLY = 4;
        static final int EQUAL = 5;
        static final int LESS = 6;
        static final int MORE = 7;
        static final int AND = 8;
        static final int OR = 9;
        static final int NOT = 10;
        static final int SKIP = 11;
        static final int SKIP_UNLESS = 12;

        static final int WHO = 0;
        static final int MARK = 1;
        static final int THING = 2;
        static final int HUE = 3;
        static final int WEIGHT = 4;
        static final int WET = 5;
        static final int BORNE = 6;

        private static final int BOUND = 1000000;
        private static final int KIND_BITS = 4;
        private static final int KIND_MASK = 15;

        private final int[] steps = new int[TAPE_SIZE];
        // Six within one another leave fewer than 40 values waiting.
        private final int[] stack = new int[64];
        final int[] facts = new int[7];
        int size;
        int claimsFrom;
        int claimsTo;
        int opensFrom;
        int opensTo;

        void clear() {
            size = 0;
            claimsFrom = 0;
            claimsTo = 0;
            opensFrom = 0;
            opensTo = 0;
        }

        void become(Laws other) {
            size = Math.min(other.size, TAPE_SIZE);
            System.arraycopy(other.steps, 0, steps, 0, size);
            claimsFrom = other.claimsFrom;
            claimsTo = other.claimsTo;
            opensFrom = other.opensFrom;
            opensTo = other.opensTo;
        }

        /** Where the step stands, so that its aim can be told later. */
        int add(int kind, int told) {
            int place = size;
            if (size < TAPE_SIZE) {
                steps[size] = kind | told << KIND_BITS;
                size++;
            }
            return place;
        }

        void aimToEnd(int place) {
            if (place >= 0 && place < size) {
                steps[place] = steps[place] & KIND_MASK | size << KIND_BITS;
            }
        }

        int worth(int from, int to) {
            int depth = 0;
            int at = from;
            // Each step aims ahead alone, so no run is longer than the row.
            for (int i = 0; i < TAPE_SIZE && at >= 0 && at < to && at < TAPE_SIZE; i++) {
                int kind = steps[at] & KIND_MASK;
                int told = steps[at] >> KIND_BITS;
                at++;
                if (kind == SKIP) {
                    at = told;
                } else if (kind <= FACT) {
                    if (depth < stack.length) {
                        stack[depth] = kind == PUSH ? told : factAt(told);
                        depth++;
                    }
                } else if (depth > 0 && kind == SKIP_UNLESS) {
                    depth--;
                    at = stack[depth] == 0 ? told : at;
                } else if (depth > 0 && kind == NOT) {
                    stack[depth - 1] = 1 - stack[depth - 1];
                } else if (depth > 1) {
                    depth--;
                    stack[depth - 1] = bounded(joined(kind, stack[depth - 1], stack[depth]));
                }
            }
            return depth > 0 ? stack[0] : 0;
        }

        private int factAt(int which) {
            return which >= 0 && which < facts.length ? facts[which] : 0;
        }

        private static long joined(int kind, long a, long b) {
            switch (kind) {
                case ADD:
                    return a + b;
                case SUBTRACT:
                    return a - b;
                case MULTIPLY:
                    return a * b;
                case EQUAL:
                    return a == b ? 1 : 0;
                case LESS:
                    return a < b ? 1 : 0;
                case MORE:
                    return a > b ? 1 : 0;
                case AND:
                    return a & b;
                default:
                    return a | b;
            }
        }

        private static int bounded(long v) {
            return v > BOUND ? BOUND : v < -BOUND ? -BOUND : (int) v;
        }
    }

    /** THE LINE as its text tells it. */
    private static final class Line {
        int stations = 2;
        int things;
        int people;
        int lines;
        int wetInTen;
        final int[] rack = new int[MAX_THINGS];
        final int[] hue = new int[MAX_THINGS];
        final int[] weight = new int[MAX_THINGS];
        final int[] holder = new int[MAX_THINGS];
        final int[] home = new int[MAX_PEOPLE];
        final int[] firstMark = new int[MAX_PEOPLE];
        final int[] bears = new int[MAX_PEOPLE];
        final Laws laws = new Laws();

        void clear() {
            stations = 2;
            things = 0;
            people = 0;
            lines = 0;
            wetInTen = 0;
            laws.clear();
        }

        void become(Line other) {
            stations = other.stations;
            things = other.things;
            people = other.people;
            lines = other.lines;
            wetInTen = other.wetInTen;
            System.arraycopy(other.rack, 0, rack, 0, MAX_THINGS);
            System.arraycopy(other.hue, 0, hue, 0, MAX_THINGS);
            System.arraycopy(other.weight, 0, weight, 0, MAX_THINGS);
            System.arraycopy(other.holder, 0, holder, 0, MAX_THINGS);
            System.arraycopy(other.home, 0, home, 0, MAX_PEOPLE);
            System.arraycopy(other.firstMark, 0, firstMark, 0, MAX_PEOPLE);
            System.arraycopy(other.bears, 0, bears, 0, MAX_PEOPLE);
            laws.become(other.laws);
        }

        boolean hasStation(int station) {
            return station >= 0 && station < stations;
        }

        boolean hasThing(int t) {
            return t >= 0 && t < things && t < MAX_THINGS;
        }

        boolean hasPerson(int p) {
            return p >= 0 && p < people && p < MAX_PEOPLE;
        }

        boolean hasSet(int set) {
            return set >= 0 && set < 1 << things && set < SETS;
        }

        int addThing(int station) {
            int t = Math.min(things, MAX_THINGS - 1);
            rack[t] = station;
            hue[t] = 0;
            weight[t] = 0;
            holder[t] = NONE;
            things = t + 1;
            return t;
        }

        int addPerson(int station) {
            int p = Math.min(people, MAX_PEOPLE - 1);
            home[p] = station;
            firstMark[p] = 0;
            bears[p] = 10;
            people = p + 1;
            return p;
        }

        boolean canBeHeld(int t) {
            return hasThing(t) && holder[t] == NONE;
        }

        void giveTo(int p, int t) {
            for (int other = 0; other < things && other < MAX_THINGS; other++) {
                if (holder[other] == p) {
                    holder[other] = NONE;
                }
            }
            if (hasThing(t)) {
                holder[t] = p;
            }
        }

        int claimBy(int mark, int p, int t) {
            if (!hasThing(t)) {
                return 0;
            }
            if (laws.claimsTo == laws.claimsFrom) {
                return mark == hue[t] ? 1 : 0;
            }
            tellFacts(mark, p, t);
            return laws.worth(laws.claimsFrom, laws.claimsTo);
        }

        int burdenOf(int mark, int p, int t, int wet, int borne) {
            if (!hasThing(t)) {
                return 0;
            }
            if (laws.opensTo == laws.opensFrom) {
                return weight[t];
            }
            tellFacts(mark, p, t);
            laws.facts[Laws.WET] = wet;
            laws.facts[Laws.BORNE] = borne;
            return Math.max(0, Math.min(MAX_BEARS, laws.worth(laws.opensFrom, laws.opensTo)));
        }

        private void tellFacts(int mark, int p, int t) {
            laws.facts[Laws.WHO] = p;
            laws.facts[Laws.MARK] = mark;
            laws.facts[Laws.THING] = t;
            laws.facts[Laws.HUE] = hue[t];
            laws.facts[Laws.WEIGHT] = weight[t];
        }
    }

    /** THE TAPE, and the text on it read into a line of its own, so that a fault leaves the other line as it is. */
    private static final class Reader {
        private static final String WORDS =
            "line thing person claims opens wet at hue weight mark bears holds who borne if then else end not and or";
        private static final int NUMBER = 128;
        private static final int TEXT_END = 129;
        private static final int UNKNOWN = 130;
        private static final int FAULTY = 131;
        private static final int LINE = 200;
        private static final int THING = 201;
        private static final int PERSON = 202;
        private static final int CLAIMS = 203;
        private static final int OPENS = 204;
        private static final int WET = 205;
        private static final int AT = 206;
        private static final int HUE = 207;
        private static final int WEIGHT = 208;
        private static final int MARK = 209;
        private static final int BEARS = 210;
        private static final int HOLDS = 211;
        private static final int WHO = 212;
        private static final int BORNE = 213;
        private static final int IF = 214;
        private static final int THEN = 215;
        private static final int ELSE = 216;
        private static final int END = 217;
        private static final int NOT = 218;
        private static final int AND = 219;
        private static final int OR = 220;

        private static final int NO_TOKEN = 1;
        private static final int MISPLACED = 2;
        private static final int OUT_OF_BOUNDS = 3;
        private static final int OVER_MANY = 4;
        private static final int MOST_NESTED = 6;

        final Line told = new Line();
        int tapeSize;
        int fault;
        int faultAt = NONE;
        private final int[] tape = new int[TAPE_SIZE];
        private int length;
        private int at;
        private int kind;
        private int tokenAt;
        private int value;
        private int nested;
        private boolean inOpens;

        void append(int four) {
            for (int shift = 24; shift >= 0 && tapeSize < TAPE_SIZE; shift -= 8) {
                tape[tapeSize] = four >>> shift & 255;
                tapeSize++;
            }
        }

        /** Reads the head of a text. The tape is empty then, though its bytes stay there till the text is read. */
        void begin(int n) {
            length = Math.max(0, Math.min(n, tapeSize));
            tapeSize = 0;
            fault = 0;
            faultAt = NONE;
            at = 0;
            nested = 0;
            told.clear();
            step();
            expect(LINE);
            told.stations = readNumber(2, MAX_STATIONS);
            expect(';');
            told.lines = 1;
        }

        boolean goesOn() {
            return fault == 0 && kind != TEXT_END;
        }

        // ---- tokens

        private void fail(int which) {
            if (fault == 0) {
                fault = which;
                faultAt = tokenAt;
            }
            kind = FAULTY;
        }

        /** To the next token; behind a fault there is none. */
        private void step() {
            if (fault != 0) {
                return;
            }
            while (at < length && (tape[at] == 32 || tape[at] == 10)) {
                at++;
            }
            tokenAt = at;
            if (at >= length) {
                kind = TEXT_END;
            } else if (isLetter(tape[at])) {
                while (at < length && isLetter(tape[at])) {
                    at++;
                }
                kind = wordFrom(tokenAt, at);
            } else if (isDigit(tape[at])) {
                readDigits();
            } else if (isSign(tape[at])) {
                kind = tape[at];
                at++;
            } else {
                fail(NO_TOKEN);
            }
        }

        private static boolean isLetter(int sign) {
            return sign >= 'a' && sign <= 'z';
        }

        private static boolean isDigit(int sign) {
            return sign >= '0' && sign <= '9';
        }

        private static boolean isSign(int sign) {
            switch (sign) {
                case ';':
                case ':':
                case '+':
                case '-':
                case '*':
                case '(':
                case ')':
                case '[':
                case ']':
                case '=':
                case '<':
                case '>':
                    return true;
                default:
                    return false;
            }
        }

        private void readDigits() {
            value = 0;
            while (at < length && isDigit(tape[at])) {
                if (at - tokenAt < 3) {
                    value = value * 10 + tape[at] - '0';
                }
                at++;
            }
            kind = NUMBER;
            if (at - tokenAt > 3) {
                fail(NO_TOKEN);
            }
        }

        private int wordFrom(int from, int to) {
            int word = LINE;
            int place = from;
            boolean same = true;
            for (int i = 0; i <= WORDS.length(); i++) {
                char sign = i < WORDS.length() ? WORDS.charAt(i) : ' ';
                if (sign != ' ') {
                    same = same && place < to && tape[place] == sign;
                    place++;
                } else if (same && place == to) {
                    return word;
                } else {
                    word++;
                    place = from;
                    same = true;
                }
            }
            return UNKNOWN;
        }

        private void expect(int which) {
            if (kind == which) {
                step();
            } else {
                fail(MISPLACED);
            }
        }

        /** The number that must stand here; a fault is told ahead of what stands behind it. */
        private int readNumber(int least, int most) {
            int number = value;
            if (kind != NUMBER) {
                fail(MISPLACED);
            } else if (number < least || number > most) {
                fail(OUT_OF_BOUNDS);
            } else {
                step();
                return number;
            }
            return least;
        }

        // ---- lines

        void readLine() {
            switch (kind) {
                case THING:
                    readThing();
                    break;
                case PERSON:
                    readPerson();
                    break;
                case CLAIMS:
                case OPENS:
                    readLaw(kind == OPENS);
                    break;
                case WET:
                    step();
                    told.wetInTen = readNumber(0, 10);
                    break;
                default:
                    fail(MISPLACED);
                    break;
            }
            expect(';');
            told.lines++;
        }

        private void readThing() {
            if (told.things >= MAX_THINGS) {
                fail(OVER_MANY);
                return;
            }
            step();
            expect(AT);
            int t = told.addThing(readNumber(0, told.stations - 1));
            for (int i = 0; i < TAPE_SIZE && (kind == HUE || kind == WEIGHT); i++) {
                boolean isHue = kind == HUE;
                step();
                if (isHue) {
                    told.hue[t] = readNumber(0, 9);
                } else {
                    told.weight[t] = readNumber(0, 9);
                }
            }
        }

        private void readPerson() {
            if (told.people >= MAX_PEOPLE) {
                fail(OVER_MANY);
                return;
            }
            step();
            expect(AT);
            int p = told.addPerson(readNumber(0, told.stations - 1));
            for (int i = 0; i < TAPE_SIZE && (kind == MARK || kind == BEARS || kind == HOLDS); i++) {
                readFlag(p);
            }
        }

        private void readFlag(int p) {
            int flag = kind;
            step();
            if (flag == MARK) {
                told.firstMark[p] = readNumber(0, MARKS - 1);
            } else if (flag == BEARS) {
                told.bears[p] = readNumber(0, MAX_BEARS);
            } else if (kind == NUMBER && !told.canBeHeld(value)) {
                fail(OUT_OF_BOUNDS);
            } else {
                told.giveTo(p, readNumber(0, MAX_THINGS - 1));
            }
        }

        // ---- laws

        private void readLaw(boolean opens) {
            inOpens = opens;
            step();
            expect(':');
            int from = told.laws.size;
            readSum();
            if (opens) {
                told.laws.opensFrom = from;
                told.laws.opensTo = told.laws.size;
            } else {
                told.laws.claimsFrom = from;
                told.laws.claimsTo = told.laws.size;
            }
        }

        private void readSum() {
            readTerm();
            for (int i = 0; i < TAPE_SIZE && (kind == '+' || kind == '-'); i++) {
                int joint = kind == '+' ? Laws.ADD : Laws.SUBTRACT;
                step();
                readTerm();
                told.laws.add(joint, 0);
            }
        }

        private void readTerm() {
            readAtom();
            for (int i = 0; i < TAPE_SIZE && kind == '*'; i++) {
                step();
                readAtom();
                told.laws.add(Laws.MULTIPLY, 0);
            }
        }

        private void readAtom() {
            int fact = factOf(kind);
            if (kind == NUMBER) {
                told.laws.add(Laws.PUSH, value);
                step();
            } else if (fact != NONE) {
                told.laws.add(Laws.FACT, fact);
                step();
            } else if (kind == '(') {
                if (goesIn()) {
                    readSum();
                    expect(')');
                    nested--;
                }
            } else if (kind == IF) {
                if (goesIn()) {
                    readChoice();
                    nested--;
                }
            } else {
                fail(MISPLACED);
            }
        }

        private int factOf(int word) {
            switch (word) {
                case WHO:
                    return Laws.WHO;
                case MARK:
                    return Laws.MARK;
                case THING:
                    return Laws.THING;
                case HUE:
                    return Laws.HUE;
                case WEIGHT:
                    return Laws.WEIGHT;
                case WET:
                    return inOpens ? Laws.WET : NONE;
                case BORNE:
                    return inOpens ? Laws.BORNE : NONE;
                default:
                    return NONE;
            }
        }

        /** Steps beyond the token that opens a part, unless it would be the seventh within one another. */
        private boolean goesIn() {
            if (nested >= MOST_NESTED) {
                fail(OVER_MANY);
                return false;
            }
            nested++;
            step();
            return true;
        }

        private void readChoice() {
            readTruth();
            expect(THEN);
            int toElse = told.laws.add(Laws.SKIP_UNLESS, 0);
            readSum();
            expect(ELSE);
            int toEnd = told.laws.add(Laws.SKIP, 0);
            told.laws.aimToEnd(toElse);
            readSum();
            expect(END);
            told.laws.aimToEnd(toEnd);
        }

        private void readTruth() {
            readBoth();
            for (int i = 0; i < TAPE_SIZE && kind == OR; i++) {
                step();
                readBoth();
                told.laws.add(Laws.OR, 0);
            }
        }

        private void readBoth() {
            readUnit();
            for (int i = 0; i < TAPE_SIZE && kind == AND; i++) {
                step();
                readUnit();
                told.laws.add(Laws.AND, 0);
            }
        }

        private void readUnit() {
            if (kind == NOT) {
                if (goesIn()) {
                    readUnit();
                    told.laws.add(Laws.NOT, 0);
                    nested--;
                }
            } else if (kind == '[') {
                if (goesIn()) {
                    readTruth();
                    expect(']');
                    nested--;
                }
            } else {
                readSum();
                readComparison();
            }
        }

        private void readComparison() {
            int joint = kind == '=' ? Laws.EQUAL : kind == '<' ? Laws.LESS : Laws.MORE;
            if (kind != '=' && kind != '<' && kind != '>') {
                fail(MISPLACED);
                return;
            }
            step();
            readSum();
            told.laws.add(joint, 0);
        }
    }

    /** All that a call could bring back by undoing, and the deeds that change it. */
    private static final class State {
        final int[] where = new int[MAX_THINGS];
        final int[] opened = new int[MAX_THINGS];
        final int[] mark = new int[MAX_PEOPLE];
        final int[] borne = new int[MAX_PEOPLE];
        int wet;
        int day;
        int x;
        /** Why the latest doAll() stopped, 0 if it didn't: no part of what is kept. */
        int why;

        void become(State other) {
            System.arraycopy(other.where, 0, where, 0, MAX_THINGS);
            System.arraycopy(other.opened, 0, opened, 0, MAX_THINGS);
            System.arraycopy(other.mark, 0, mark, 0, MAX_PEOPLE);
            System.arraycopy(other.borne, 0, borne, 0, MAX_PEOPLE);
            wet = other.wet;
            day = other.day;
            x = other.x;
        }

        void begin(Line line) {
            for (int t = 0; t < MAX_THINGS; t++) {
                where[t] = !line.hasThing(t) ? NONE : line.holder[t] == NONE ? line.rack[t] : HELD + line.holder[t];
                opened[t] = 0;
            }
            for (int p = 0; p < MAX_PEOPLE; p++) {
                mark[p] = line.hasPerson(p) ? line.firstMark[p] : 0;
                borne[p] = 0;
            }
            wet = 0;
            day = 0;
            x = 0;
        }

        int heldThing(int p) {
            if (p < 0 || p >= MAX_PEOPLE) {
                return NONE;
            }
            for (int t = 0; t < MAX_THINGS; t++) {
                if (where[t] == HELD + p) {
                    return t;
                }
            }
            return NONE;
        }

        int holderOf(int t) {
            if (t < 0 || t >= MAX_THINGS || where[t] < HELD || where[t] >= HELD + MAX_PEOPLE) {
                return NONE;
            }
            return where[t] - HELD;
        }

        int markOf(int p) {
            return p >= 0 && p < MAX_PEOPLE ? mark[p] : 0;
        }

        int borneBy(int p) {
            return p >= 0 && p < MAX_PEOPLE ? borne[p] : 0;
        }

        int officeBits() {
            int bits = 0;
            for (int t = 0; t < MAX_THINGS; t++) {
                if (where[t] == OFFICE) {
                    bits |= 1 << t;
                }
            }
            return bits;
        }

        int heldBits() {
            int bits = 0;
            for (int t = 0; t < MAX_THINGS; t++) {
                if (holderOf(t) != NONE) {
                    bits |= 1 << t;
                }
            }
            return bits;
        }

        int holderBits() {
            int bits = 0;
            for (int p = 0; p < MAX_PEOPLE; p++) {
                if (heldThing(p) != NONE) {
                    bits |= 1 << p;
                }
            }
            return bits;
        }

        // ---- deeds: each answers why it can't be, or 0 when it is done

        int tryLeave(Line line, int p) {
            if (!line.hasPerson(p)) {
                return WHY_NO_SUCH;
            }
            int t = heldThing(p);
            if (t == NONE) {
                return WHY_HANDS;
            }
            where[t] = line.home[p];
            return 0;
        }

        int tryFetch(Line line, int p, int t) {
            if (!line.hasPerson(p) || !line.hasThing(t)) {
                return WHY_NO_SUCH;
            }
            if (heldThing(p) != NONE) {
                return WHY_HANDS;
            }
            if (where[t] != OFFICE || line.claimBy(mark[p], p, t) <= 0) {
                return WHY_REFUSED;
            }
            where[t] = HELD + p;
            return 0;
        }

        int tryOpen(Line line, int p) {
            if (!line.hasPerson(p)) {
                return WHY_NO_SUCH;
            }
            int t = heldThing(p);
            if (t == NONE) {
                return WHY_HANDS;
            }
            int then = borne[p] + line.burdenOf(mark[p], p, t, wet, borne[p]);
            if (then > line.bears[p]) {
                return WHY_REFUSED;
            }
            borne[p] = then;
            opened[t]++;
            return 0;
        }

        int trySwap(Line line, int p, int q) {
            if (!line.hasPerson(p) || !line.hasPerson(q) || p == q) {
                return WHY_NO_SUCH;
            }
            int ofP = heldThing(p);
            int ofQ = heldThing(q);
            if (ofP == NONE || ofQ == NONE) {
                return WHY_HANDS;
            }
            where[ofP] = HELD + q;
            where[ofQ] = HELD + p;
            return 0;
        }

        int tryMark(Line line, int p, int n) {
            if (!line.hasPerson(p) || n < 0 || n >= MARKS) {
                return WHY_NO_SUCH;
            }
            mark[p] = n;
            return 0;
        }

        /** A deed by its number in a tray. */
        int attempt(Line line, long v) {
            if (v == NONE) {
                passDay(line);
                return 0;
            }
            if (v < 0 || v >= 400 || v >= 20 && v < 100) {
                return WHY_NO_SUCH;
            }
            int code = (int) v;
            if (code < 20) {
                return code < 10 ? tryLeave(line, code) : tryOpen(line, code - 10);
            }
            int p = code % 100 / 10;
            if (code < 200) {
                return tryFetch(line, p, code % 10);
            }
            return code < 300 ? trySwap(line, p, code % 10) : tryMark(line, p, code % 10);
        }

        /** How many could be, till one couldn't; why tells what stopped it. */
        int doAll(Line line, Tray deeds) {
            why = 0;
            for (int i = 0; i < deeds.size; i++) {
                why = attempt(line, deeds.at(i));
                if (why != 0) {
                    return i;
                }
            }
            return Math.max(0, deeds.size);
        }

        int seasonDeed(Line line) {
            int kind = draw() % 6;
            if (kind < 2) {
                return attempt(line, NONE);
            }
            int p = draw() % 6;
            switch (kind) {
                case 2:
                    return attempt(line, p);
                case 3:
                    return attempt(line, 10 + p);
                case 4:
                    return attempt(line, 100 + 10 * p + draw() % 8);
                default:
                    return attempt(line, 200 + 10 * p + draw() % 6);
            }
        }

        // ---- days

        private int draw() {
            x = 1103515245 * x + 12345;
            return x >>> 16;
        }

        /** How many things were taken. */
        int passDay(Line line) {
            wet = draw() % 10 < line.wetInTen ? 1 : 0;
            Arrays.fill(borne, 0);
            int taken = 0;
            for (int t = 0; t < MAX_THINGS && line.hasThing(t); t++) {
                if (where[t] >= 0 && where[t] < MAX_STATIONS) {
                    where[t] = nextPlace(line, t, where[t] + 1);
                    taken += where[t] >= HELD && where[t] != OFFICE ? 1 : 0;
                }
            }
            day++;
            return taken;
        }

        private int nextPlace(Line line, int t, int station) {
            if (!line.hasStation(station)) {
                return OFFICE;
            }
            int place = station;
            int most = 0;
            for (int p = 0; p < MAX_PEOPLE && line.hasPerson(p); p++) {
                if (line.home[p] == station && heldThing(p) == NONE) {
                    int claim = line.claimBy(mark[p], p, t);
                    if (claim > most) {
                        most = claim;
                        place = HELD + p;
                    }
                }
            }
            return place;
        }
    }

    /** A tray of numbers, each cut to the tray's sort. */
    private static final class Tray {
        private final long[] row = new long[TRAY_SIZE];
        private int sort;
        int size = NONE;

        boolean isMissing() {
            return size < 0;
        }

        boolean hasPlace(int i) {
            return i >= 0 && i < size && i < TRAY_SIZE;
        }

        void beginAnew(int itsSort, int n) {
            sort = itsSort;
            size = n;
            Arrays.fill(row, 0L);
        }

        long at(int i) {
            return hasPlace(i) ? row[i] : 0;
        }

        long put(int i, long v) {
            if (!hasPlace(i)) {
                return NO_NUMBER;
            }
            row[i] = cut(v);
            return row[i];
        }

        private long cut(long v) {
            switch (sort) {
                case 0:
                    return (byte) v;
                case 1:
                    return (short) v;
                case 2:
                    return (int) v;
                default:
                    return v;
            }
        }

        /** What refuses a call that wants 1 to so many numbers, each from 0 on and below a bound. */
        int codeForNumbers(int most, int bound) {
            if (isMissing()) {
                return MISSING;
            }
            if (size < 1 || size > most) {
                return TOO_MANY;
            }
            for (int i = 0; i < size; i++) {
                if (at(i) < 0 || at(i) >= bound) {
                    return CANNOT_BE;
                }
            }
            return 0;
        }
    }

    /** How much each person claims each thing, by the marks of one moment. */
    private static final class Claims {
        private final int[] table = new int[MAX_PEOPLE * MAX_THINGS];

        void gather(Line line, State state) {
            for (int p = 0; p < MAX_PEOPLE && line.hasPerson(p); p++) {
                for (int t = 0; t < MAX_THINGS && line.hasThing(t); t++) {
                    table[p * MAX_THINGS + t] = line.claimBy(state.mark[p], p, t);
                }
            }
        }

        int of(int p, int t) {
            if (p < 0 || p >= MAX_PEOPLE || t < 0 || t >= MAX_THINGS) {
                return 0;
            }
            return table[p * MAX_THINGS + t];
        }

        boolean someBy(int p, int things) {
            for (int t = 0; t < things; t++) {
                if (of(p, t) > 0) {
                    return true;
                }
            }
            return false;
        }

        /** Who claims a thing most, above 0, the first, one person left aside. */
        int mostOf(int t, int people, int aside) {
            int who = NONE;
            int most = 0;
            for (int p = 0; p < people; p++) {
                if (p != aside && of(p, t) > most) {
                    most = of(p, t);
                    who = p;
                }
            }
            return who;
        }
    }

    /** Some things left on racks, no others there: who takes them as days go by. */
    private static final class Left {
        final int[] taker = new int[MOST_PLANNED];
        final int[] days = new int[MOST_PLANNED];
        final int[] wanted = new int[MOST_PLANNED];
        final int[] first = new int[MOST_PLANNED];
        private final int[] what = new int[MOST_PLANNED];
        private final int[] from = new int[MOST_PLANNED];
        private final int[] place = new int[MOST_PLANNED];
        /** The places of what[], by the numbers of the things. */
        private final int[] order = new int[MOST_PLANNED];
        private int size;
        private int freeAtFirst;
        private int free;

        void begin(State state) {
            size = 0;
            freeAtFirst = ~state.holderBits();
        }

        void add(int t, State state) {
            if (size >= MOST_PLANNED) {
                return;
            }
            int holder = state.holderOf(t);
            if (holder != NONE) {
                freeAtFirst |= 1 << holder;
            }
            what[size] = t;
            int k = size;
            for (; k > 0 && what[order[k - 1]] > t; k--) {
                order[k] = order[k - 1];
            }
            order[k] = size;
            size++;
        }

        void start(int i, int station) {
            if (i >= 0 && i < size) {
                from[i] = station;
            }
        }

        void travel(Line line, Claims claims) {
            free = freeAtFirst;
            for (int i = 0; i < size; i++) {
                place[i] = from[i];
                taker[i] = NONE;
                days[i] = 0;
            }
            int going = size;
            for (int day = 1; day <= MAX_STATIONS && going > 0; day++) {
                for (int k = 0; k < size; k++) {
                    int i = order[k];
                    if (days[i] == 0 && arrives(line, claims, i)) {
                        days[i] = day;
                        going--;
                    }
                }
            }
        }

        /** A thing goes to the next station: whether it goes no further. */
        private boolean arrives(Line line, Claims claims, int i) {
            place[i]++;
            if (!line.hasStation(place[i])) {
                return true;
            }
            int most = 0;
            for (int p = 0; p < MAX_PEOPLE && line.hasPerson(p); p++) {
                if (line.home[p] == place[i] && (free >> p & 1) == 1 && claims.of(p, what[i]) > most) {
                    most = claims.of(p, what[i]);
                    taker[i] = p;
                }
            }
            if (taker[i] == NONE) {
                return false;
            }
            free &= ~(1 << taker[i]);
            return true;
        }

        /** How many plans would do, 1 at most if only the first one is asked for, which is kept in first[]. */
        int searchPlans(Line line, Claims claims, boolean onlyFirst) {
            int all = 1;
            for (int i = 0; i < size; i++) {
                all *= line.stations;
            }
            int found = 0;
            for (int code = 0; code < all; code++) {
                spell(code, line.stations);
                if (wouldDo(line, claims)) {
                    found++;
                    if (found == 1) {
                        System.arraycopy(from, 0, first, 0, MOST_PLANNED);
                    }
                    if (onlyFirst) {
                        return found;
                    }
                }
            }
            return found;
        }

        private void spell(int code, int stations) {
            int rest = code;
            for (int i = size - 1; i >= 0; i--) {
                from[i] = Math.floorMod(rest, Math.max(stations, 1));
                rest /= Math.max(stations, 1);
            }
        }

        private boolean wouldDo(Line line, Claims claims) {
            travel(line, claims);
            for (int i = 0; i < size; i++) {
                if (taker[i] != wanted[i]) {
                    return false;
                }
            }
            return true;
        }
    }

    /** Who gets what: matchings, and two who choose by turns. */
    private static final class Whose {
        /** By people from p on and the set already given: the greatest sum; or, of a game, by the set left. */
        final int[] best = new int[(MAX_PEOPLE + 1) * SETS];

        void weighMatchings(Line line, Claims claims) {
            Arrays.fill(best, line.people * SETS, (line.people + 1) * SETS, 0);
            for (int p = line.people - 1; p >= 0; p--) {
                for (int given = 0; given < 1 << line.things; given++) {
                    int most = best[(p + 1) * SETS + given];
                    for (int t = 0; t < line.things; t++) {
                        most = Math.max(most, sumWith(claims, p, t, given));
                    }
                    best[p * SETS + given] = most;
                }
            }
        }

        /** The greatest sum from person p on, if it is given t; NONE if it can't be. */
        private int sumWith(Claims claims, int p, int t, int given) {
            if ((given >> t & 1) == 1 || claims.of(p, t) <= 0) {
                return NONE;
            }
            return claims.of(p, t) + best[(p + 1) * SETS + (given | 1 << t)];
        }

        int givenTo(int who, Line line, Claims claims) {
            int given = 0;
            int thing = NONE;
            for (int p = 0; p <= who && p < line.people; p++) {
                thing = NONE;
                for (int t = 0; t < line.things && thing == NONE; t++) {
                    if (sumWith(claims, p, t, given) == best[p * SETS + given]) {
                        thing = t;
                    }
                }
                given |= thing == NONE ? 0 : 1 << thing;
            }
            return thing;
        }

        int waysForAll(Line line, Claims claims) {
            Arrays.fill(best, 0, SETS, 0);
            best[0] = 1;
            int ways = 0;
            for (int given = 0; given < 1 << line.things; given++) {
                int p = Integer.bitCount(given);
                if (p == line.people) {
                    ways += best[given];
                }
                for (int t = 0; t < line.things && p < line.people; t++) {
                    if ((given >> t & 1) == 0 && claims.of(p, t) > 0) {
                        best[given | 1 << t] += best[given];
                    }
                }
            }
            return ways;
        }

        /** What it comes to from each set that may be left on, p having begun with the whole one. */
        void playOut(Claims claims, int p, int q, int set) {
            best[0] = 0;
            for (int rest = 1; rest <= set && rest < SETS; rest++) {
                if ((rest & ~set) == 0) {
                    boolean isFirst = (Integer.bitCount(set ^ rest) & 1) == 0;
                    best[rest] = bestTurn(claims, isFirst ? p : q, isFirst ? 1 : -1, rest);
                }
            }
        }

        private int bestTurn(Claims claims, int who, int side, int rest) {
            int most = FAR_CANNOT_BE;
            for (int t = 0; t < MAX_THINGS; t++) {
                if ((rest >> t & 1) == 1) {
                    most = Math.max(most, claims.of(who, t) + side * best[rest ^ 1 << t]);
                }
            }
            return side * most;
        }
    }

    /** Rings of holders, round by round, till nobody is left. */
    private static final class Trades {
        final int[] has = new int[MAX_PEOPLE];
        final int[] held = new int[MAX_PEOPLE];
        private final int[] pointsTo = new int[MAX_PEOPLE];

        /** How many rounds. */
        int run(Line line, State state, Claims claims) {
            int left = 0;
            for (int p = 0; p < MAX_PEOPLE; p++) {
                held[p] = state.heldThing(p);
                has[p] = NONE;
                left |= held[p] == NONE ? 0 : 1 << p;
            }
            int rounds = 0;
            for (int i = 0; i < MAX_PEOPLE && left != 0; i++) {
                for (int p = 0; p < MAX_PEOPLE; p++) {
                    pointsTo[p] = (left >> p & 1) == 1 ? choice(claims, p, left) : p;
                }
                left &= ~settle(left);
                rounds++;
            }
            return rounds;
        }

        /** Who holds what p claims most of those left: itself if nothing is more, else who holds the first. */
        private int choice(Claims claims, int p, int left) {
            int whose = p;
            int most = claims.of(p, held[p]);
            for (int q = 0; q < MAX_PEOPLE; q++) {
                if ((left >> q & 1) == 1) {
                    int claim = claims.of(p, held[q]);
                    if (claim > most || claim == most && whose != p && held[q] < held[whose]) {
                        most = claim;
                        whose = q;
                    }
                }
            }
            return whose;
        }

        /** All on rings have what they point to: who they are, as bits. */
        private int settle(int left) {
            int settled = 0;
            for (int p = 0; p < MAX_PEOPLE; p++) {
                if ((left >> p & 1) == 1 && isOnRing(p)) {
                    has[p] = held[pointsTo[p]];
                    settled |= 1 << p;
                }
            }
            return settled;
        }

        private boolean isOnRing(int p) {
            int q = pointsTo[p];
            for (int i = 0; i < MAX_PEOPLE && q != p; i++) {
                q = pointsTo[q];
            }
            return q == p;
        }
    }

    /** The fewest dry days in which one person opens a set of things. */
    private static final class Opener {
        private static final int FAR = 14;
        private static final int DEEPEST = 2 * MAX_THINGS + 2;
        private static final int ROW = SETS / 8;
        private static final int BURDENS = MAX_BEARS + 1;

        private final int[] order = new int[MAX_THINGS];
        /** By what is borne today and the set to open, four bits each: 1 more than the further days, 0 unknown. */
        private final int[] known = new int[BURDENS * ROW];
        /** By thing and what is borne: the burden, NONE unknown. */
        private final int[] burdens = new int[MAX_THINGS * BURDENS];
        /** What may be borne today behind the things in order so far, if it all takes the fewest days. */
        private int[] reached = new int[BURDENS];
        private int[] ahead = new int[BURDENS];
        private Line line;
        private int mark;
        private int person;
        private int bears;

        void begin(Line itsLine, State state, int p) {
            line = itsLine;
            person = p;
            mark = state.markOf(p);
            bears = itsLine.hasPerson(p) ? Math.min(itsLine.bears[p], MAX_BEARS) : 0;
            Arrays.fill(known, 0, (bears + 1) * ROW, 0);
            Arrays.fill(burdens, NONE);
        }

        int fewestDays(int set) {
            if (set == 0) {
                return 0;
            }
            int further = furtherDays(set, 0, 0);
            return further >= FAR ? NONE : 1 + further;
        }

        int mostInADay(int set) {
            int best = 0;
            for (int part = 1; part <= set && part < SETS; part++) {
                if ((part & ~set) == 0 && Integer.bitCount(part) > Integer.bitCount(best)
                        && furtherDays(part, 0, 0) == 0) {
                    best = part;
                }
            }
            return best;
        }

        int orderAt(int i) {
            return i >= 0 && i < MAX_THINGS ? order[i] : NONE;
        }

        /** How many things stand in order then: all of the set, or none if it can't be. */
        int findOrder(int set) {
            if (fewestDays(set) == NONE) {
                return 0;
            }
            Arrays.fill(reached, 0);
            reached[0] = 1;
            int rest = set;
            for (int i = 0; i < MAX_THINGS && rest != 0; i++) {
                int t = 0;
                while (t < MAX_THINGS && !reachesBehind(t, rest)) {
                    t++;
                }
                order[i] = t;
                rest &= ~(1 << t);
                int[] spare = reached;
                reached = ahead;
                ahead = spare;
            }
            return Integer.bitCount(set);
        }

        /** Whether t can be the next one within the fewest days; ahead tells what may be borne today behind it. */
        private boolean reachesBehind(int t, int rest) {
            if ((rest >> t & 1) == 0) {
                return false;
            }
            Arrays.fill(ahead, 0);
            boolean some = false;
            for (int b = 0; b <= bears && b < BURDENS; b++) {
                int further = reached[b] == 1 ? furtherDays(rest, b, 0) : FAR;
                // On the same day, or on the next one.
                for (int later = 0; later < 2 && later <= b && further < FAR; later++) {
                    int start = later == 0 ? b : 0;
                    int then = start + burdenAt(t, start);
                    if (then <= bears && furtherDays(rest ^ 1 << t, then, 0) == further - later) {
                        ahead[then] = 1;
                        some = true;
                    }
                }
            }
            return some;
        }

        /** How many days more it takes to open the rest, with b borne today; FAR if it can't be. */
        private int furtherDays(int rest, int b, int depth) {
            if (rest <= 0 || rest >= SETS) {
                return 0;
            }
            if (b < 0 || b > bears || depth > DEEPEST) {
                return FAR;
            }
            int place = b * ROW + (rest >> 3);
            int shift = (rest & 7) * 4;
            int kept = known[place] >>> shift & 15;
            if (kept != 0) {
                return kept - 1;
            }
            int least = b > 0 ? Math.min(FAR, 1 + furtherDays(rest, 0, depth + 1)) : FAR;
            for (int t = 0; t < MAX_THINGS && least > 0; t++) {
                if ((rest >> t & 1) == 1) {
                    int then = b + burdenAt(t, b);
                    if (then <= bears) {
                        least = Math.min(least, furtherDays(rest ^ 1 << t, then, depth + 1));
                    }
                }
            }
            known[place] |= least + 1 << shift;
            return least;
        }

        private int burdenAt(int t, int b) {
            if (t < 0 || t >= MAX_THINGS || b < 0 || b >= BURDENS || line == null) {
                return BURDENS;
            }
            int place = t * BURDENS + b;
            if (burdens[place] == NONE) {
                burdens[place] = line.burdenOf(mark, person, t, 0, b);
            }
            return burdens[place];
        }
    }

    /** What one may have borne in all behind some days, each wet or dry by itself, as shares of ways. */
    private static final class Odds {
        private static final int TOTALS = 1000;

        long ways;
        private long[] chances = new long[TOTALS];
        private long[] ahead = new long[TOTALS];

        void spread(Line line, State state, Tray tray, int p) {
            Arrays.fill(chances, 0L);
            chances[0] = 1;
            ways = 1;
            for (int i = 0; i < tray.size && i < MOST_CHANCES; i++) {
                Arrays.fill(ahead, 0L);
                int t = (int) tray.at(i);
                for (int total = 0; total <= i * MAX_BEARS && total < TOTALS; total++) {
                    if (chances[total] != 0) {
                        int mark = state.markOf(p);
                        add(total + line.burdenOf(mark, p, t, 0, total), chances[total] * (10 - line.wetInTen));
                        add(total + line.burdenOf(mark, p, t, 1, total), chances[total] * line.wetInTen);
                    }
                }
                long[] spare = chances;
                chances = ahead;
                ahead = spare;
                ways *= 10;
            }
        }

        private void add(int total, long weight) {
            if (total >= 0 && total < TOTALS) {
                ahead[total] += weight;
            }
        }

        long waysUpTo(int bears) {
            long sum = 0;
            for (int total = 0; total <= bears && total < TOTALS; total++) {
                sum += chances[total];
            }
            return sum;
        }

        /** The least to bear by which it goes well m times in 100 at least. */
        int leastFor(int m) {
            long sum = 0;
            for (int total = 0; total < TOTALS; total++) {
                sum += chances[total];
                if (sum * 100 >= m * ways) {
                    return total;
                }
            }
            return TOTALS - 1;
        }

        static long commonDivisor(long a, long b) {
            long more = a;
            long less = b;
            for (int i = 0; i < 100 && less != 0; i++) {
                long rest = more % less;
                more = less;
                less = rest;
            }
            return more;
        }
    }
}
