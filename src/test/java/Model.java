import java.util.ArrayDeque;
import java.util.ArrayList;
import java.util.Arrays;
import java.util.List;
import java.util.Map;
import java.util.TreeMap;
import java.util.function.IntBinaryOperator;

/** A slow second reading of the document, by trying all ways; its answers are set against those of GampLine. */
final class Model {
    /** What a text may read of the moment at which a law is asked. */
    record Facts(long who, long mark, long thing, long hue, long weight, long wet, long borne) { }

    interface Sum {
        long of(Facts f);
    }

    interface Truth {
        boolean of(Facts f);
    }

    static final class Fault extends RuntimeException {
        private static final long serialVersionUID = 1L;
        final int kind;
        final int place;

        Fault(int kind, int place) {
            this.kind = kind;
            this.place = place;
        }
    }

    static final class Thing {
        int rack;
        int hue;
        int weight;
        int holder = -1;
    }

    static final class Person {
        int home;
        int mark;
        int bears = 10;
    }

    static final class Told {
        int stations = 2;
        int lines;
        int wet;
        final List<Thing> things = new ArrayList<>();
        final List<Person> people = new ArrayList<>();
        Sum claims;
        Sum opens;
    }

    static final class Now {
        int[] where = {};
        int[] opened = {};
        int[] mark = {};
        int[] borne = {};
        boolean wet;
        int day;
        int x;

        Now copy() {
            Now n = new Now();
            n.where = where.clone();
            n.opened = opened.clone();
            n.mark = mark.clone();
            n.borne = borne.clone();
            n.wet = wet;
            n.day = day;
            n.x = x;
            return n;
        }
    }

    private static final int NOWHERE = -50;

    private byte[] tape = new byte[0];
    private Told told = new Told();
    private Now now = new Now();
    private final ArrayDeque<Now> past = new ArrayDeque<>();
    private final long[][] trays = new long[4][];
    private final int[] sorts = new int[4];
    private final Told[] imageTold = new Told[2];
    private final Now[] imageNow = new Now[2];
    private int fault;
    private int faultAt = -1;

    // ---- the text

    private static final class Parser {
        private final byte[] text;
        private final Told told = new Told();
        private String token = "";
        private int from;
        private int to;
        private int open;
        private boolean opens;

        Parser(byte[] text) {
            this.text = text;
            next();
        }

        private void next() {
            int at = to;
            while (at < text.length && (text[at] == ' ' || text[at] == '\n')) {
                at++;
            }
            from = at;
            if (at == text.length) {
                to = at;
                token = "";
                return;
            }
            char c = (char) (text[at] & 255);
            String same = Character.toString(c).matches("[a-z]") ? "[a-z]" : Character.toString(c).matches("[0-9]") ? "[0-9]" : "";
            to = at + 1;
            if (same.isEmpty()) {
                if (";:+-*()[]=<>".indexOf(c) < 0) {
                    throw new Fault(1, from);
                }
            } else {
                while (to < text.length && Character.toString((char) (text[to] & 255)).matches(same)) {
                    to++;
                }
            }
            token = new String(text, from, to - from, java.nio.charset.StandardCharsets.ISO_8859_1);
            if (token.matches("[0-9]{4,}")) {
                throw new Fault(1, from);
            }
        }

        private boolean is(String... words) {
            return Arrays.asList(words).contains(token);
        }

        private Fault wrong(int kind) {
            return new Fault(kind, from);
        }

        private String pass(String... words) {
            if (!is(words)) {
                throw wrong(2);
            }
            String was = token;
            next();
            return was;
        }

        private int n(int least, int most) {
            if (!token.matches("[0-9]+")) {
                throw wrong(2);
            }
            int v = Integer.parseInt(token);
            if (v < least || v > most) {
                throw wrong(3);
            }
            next();
            return v;
        }

        Told parse() {
            pass("line");
            told.stations = n(2, 8);
            pass(";");
            told.lines = 1;
            while (!is("")) {
                lineOf();
                pass(";");
                told.lines++;
            }
            return told;
        }

        private void lineOf() {
            if (is("thing") && told.things.size() == 8 || is("person") && told.people.size() == 6) {
                throw wrong(4);
            }
            switch (pass("thing", "person", "claims", "opens", "wet")) {
                case "thing" -> {
                    pass("at");
                    Thing t = new Thing();
                    t.rack = n(0, told.stations - 1);
                    told.things.add(t);
                    while (is("hue", "weight")) {
                        if (pass("hue", "weight").equals("hue")) {
                            t.hue = n(0, 9);
                        } else {
                            t.weight = n(0, 9);
                        }
                    }
                }
                case "person" -> {
                    pass("at");
                    Person p = new Person();
                    p.home = n(0, told.stations - 1);
                    int number = told.people.size();
                    told.people.add(p);
                    while (is("mark", "bears", "holds")) {
                        switch (pass("mark", "bears", "holds")) {
                            case "mark" -> p.mark = n(0, 9);
                            case "bears" -> p.bears = n(0, 99);
                            default -> hold(number);
                        }
                    }
                }
                case "wet" -> told.wet = n(0, 10);
                case "claims" -> {
                    pass(":");
                    opens = false;
                    told.claims = sum();
                }
                default -> {
                    pass(":");
                    opens = true;
                    told.opens = sum();
                }
            }
        }

        private void hold(int person) {
            if (token.matches("[0-9]+")) {
                int v = Integer.parseInt(token);
                if (v >= told.things.size() || told.things.get(v).holder >= 0) {
                    throw wrong(3);
                }
            }
            Thing t = told.things.get(n(0, 7));
            told.things.stream().filter(o -> o.holder == person).forEach(o -> o.holder = -1);
            t.holder = person;
        }

        private static long kept(long v) {
            return v > 1000000 ? 1000000 : v < -1000000 ? -1000000 : v;
        }

        private Sum sum() {
            Sum left = term();
            while (is("+", "-")) {
                Sum a = left;
                boolean plus = pass("+", "-").equals("+");
                Sum b = term();
                left = f -> kept(plus ? a.of(f) + b.of(f) : a.of(f) - b.of(f));
            }
            return left;
        }

        private Sum term() {
            Sum left = atom();
            while (is("*")) {
                next();
                Sum a = left;
                Sum b = atom();
                left = f -> kept(a.of(f) * b.of(f));
            }
            return left;
        }

        private void in() {
            if (open == 6) {
                throw wrong(4);
            }
            open++;
            next();
        }

        private Sum atom() {
            if (token.matches("[0-9]+")) {
                int v = n(0, 999);
                return f -> v;
            }
            if (is("(")) {
                in();
                Sum s = sum();
                pass(")");
                open--;
                return s;
            }
            if (is("if")) {
                in();
                Truth t = truth();
                pass("then");
                Sum a = sum();
                pass("else");
                Sum b = sum();
                pass("end");
                open--;
                return f -> t.of(f) ? a.of(f) : b.of(f);
            }
            String word = opens ? pass("who", "mark", "thing", "hue", "weight", "wet", "borne")
                : pass("who", "mark", "thing", "hue", "weight");
            return switch (word) {
                case "who" -> Facts::who;
                case "mark" -> Facts::mark;
                case "thing" -> Facts::thing;
                case "hue" -> Facts::hue;
                case "weight" -> Facts::weight;
                case "wet" -> Facts::wet;
                default -> Facts::borne;
            };
        }

        private Truth truth() {
            Truth left = both();
            while (is("or")) {
                next();
                Truth a = left;
                Truth b = both();
                left = f -> a.of(f) || b.of(f);
            }
            return left;
        }

        private Truth both() {
            Truth left = unit();
            while (is("and")) {
                next();
                Truth a = left;
                Truth b = unit();
                left = f -> a.of(f) && b.of(f);
            }
            return left;
        }

        private Truth unit() {
            if (is("not")) {
                in();
                Truth t = unit();
                open--;
                return f -> !t.of(f);
            }
            if (is("[")) {
                in();
                Truth t = truth();
                pass("]");
                open--;
                return t;
            }
            Sum a = sum();
            String sign = pass("=", "<", ">");
            Sum b = sum();
            return switch (sign) {
                case "=" -> f -> a.of(f) == b.of(f);
                case "<" -> f -> a.of(f) < b.of(f);
                default -> f -> a.of(f) > b.of(f);
            };
        }
    }

    // ---- what all share

    private boolean isThing(long t) {
        return t >= 0 && t < told.things.size();
    }

    private boolean isPerson(long p) {
        return p >= 0 && p < told.people.size();
    }

    private boolean isStation(int s) {
        return s >= 0 && s < told.stations;
    }

    private boolean isSet(int set) {
        for (int bit = 0; bit < 32; bit++) {
            if ((set >> bit & 1) == 1 && !isThing(bit)) {
                return false;
            }
        }
        return true;
    }

    private Facts facts(int p, int t, long mark, boolean wet, long borne) {
        return new Facts(p, mark, t, told.things.get(t).hue, told.things.get(t).weight, wet ? 1 : 0, borne);
    }

    private int claim(int p, int t, int mark) {
        if (told.claims == null) {
            return mark == told.things.get(t).hue ? 1 : 0;
        }
        return (int) told.claims.of(facts(p, t, mark, false, 0));
    }

    private int claim(int p, int t) {
        return claim(p, t, now.mark[p]);
    }

    private int hard(int p, int t, boolean wet, long borne) {
        if (told.opens == null) {
            return told.things.get(t).weight;
        }
        return (int) Math.max(0, Math.min(99, told.opens.of(facts(p, t, now.mark[p], wet, borne))));
    }

    private static int held(Now n, int p) {
        for (int t = 0; t < n.where.length; t++) {
            if (n.where[t] == 10 + p) {
                return t;
            }
        }
        return -1;
    }

    private void keep(Now before) {
        past.push(before);
        if (past.size() > 10) {
            past.removeLast();
        }
    }

    // ---- the line

    public int feed(int a, int b, int c, int d, int e) {
        if (tape.length > 880) {
            return -5;
        }
        int was = tape.length;
        tape = Arrays.copyOf(tape, was + 20);
        java.nio.ByteBuffer.wrap(tape, was, 20).putInt(a).putInt(b).putInt(c).putInt(d).putInt(e);
        return tape.length;
    }

    public int line(int n) {
        if (n < 0 || n > tape.length) {
            return -3;
        }
        byte[] text = Arrays.copyOf(tape, n);
        tape = new byte[0];
        Told next;
        try {
            next = new Parser(text).parse();
        } catch (Fault f) {
            fault = f.kind;
            faultAt = f.place;
            return -30 - f.kind;
        }
        fault = 0;
        faultAt = -1;
        told = next;
        now = new Now();
        now.where = told.things.stream().mapToInt(t -> t.holder < 0 ? t.rack : 10 + t.holder).toArray();
        now.opened = new int[told.things.size()];
        now.mark = told.people.stream().mapToInt(p -> p.mark).toArray();
        now.borne = new int[told.people.size()];
        past.clear();
        return told.lines;
    }

    public int fault(int what) {
        return what == 0 ? fault : what == 1 ? faultAt : -1;
    }

    public int thing(int t, int what) {
        if (!isThing(t) || what < 0 || what > 3) {
            return -2;
        }
        return new int[] {now.where[t], told.things.get(t).hue, told.things.get(t).weight, now.opened[t]}[what];
    }

    public int person(int p, int what) {
        if (!isPerson(p) || what < 0 || what > 4) {
            return -2;
        }
        Person who = told.people.get(p);
        return new int[] {who.home, now.mark[p], who.bears, held(now, p), now.borne[p]}[what];
    }

    public int claims(int p, int t) {
        return isPerson(p) && isThing(t) ? claim(p, t) : -99000002;
    }

    public int burden(int p, int t) {
        return isPerson(p) && isThing(t) ? hard(p, t, now.wet, now.borne[p]) : -2;
    }

    // ---- deeds: each changes now and answers 0, or answers why not

    private int doLeave(long p) {
        if (!isPerson(p)) {
            return 1;
        }
        int t = held(now, (int) p);
        if (t < 0) {
            return 2;
        }
        now.where[t] = told.people.get((int) p).home;
        return 0;
    }

    private int doFetch(int p, int t) {
        if (!isPerson(p) || !isThing(t)) {
            return 1;
        }
        if (held(now, p) >= 0) {
            return 2;
        }
        if (now.where[t] != 99 || claim(p, t) < 1) {
            return 3;
        }
        now.where[t] = 10 + p;
        return 0;
    }

    private int doOpen(int p) {
        if (!isPerson(p)) {
            return 1;
        }
        int t = held(now, p);
        if (t < 0) {
            return 2;
        }
        int hard = hard(p, t, now.wet, now.borne[p]);
        if (now.borne[p] + hard > told.people.get(p).bears) {
            return 3;
        }
        now.borne[p] += hard;
        now.opened[t]++;
        return 0;
    }

    private int doSwap(int p, int q) {
        if (!isPerson(p) || !isPerson(q) || p == q) {
            return 1;
        }
        int a = held(now, p);
        int b = held(now, q);
        if (a < 0 || b < 0) {
            return 2;
        }
        now.where[a] = 10 + q;
        now.where[b] = 10 + p;
        return 0;
    }

    private int doMark(int p, int n) {
        if (!isPerson(p) || n < 0 || n > 9) {
            return 1;
        }
        now.mark[p] = n;
        return 0;
    }

    private int draw() {
        now.x = (int) (1103515245L * now.x + 12345L);
        return (int) ((now.x & 0xffffffffL) / 65536);
    }

    private int aDay() {
        now.wet = draw() % 10 < told.wet;
        Arrays.fill(now.borne, 0);
        now.day++;
        int taken = 0;
        for (int t = 0; t < now.where.length; t++) {
            if (now.where[t] < 0 || now.where[t] > 7) {
                continue;
            }
            int next = now.where[t] + 1;
            now.where[t] = next == told.stations ? 99 : next;
            int thing = t;
            int who = java.util.stream.IntStream.range(0, told.people.size())
                .filter(p -> told.people.get(p).home == next && next < told.stations && held(now, p) < 0)
                .filter(p -> claim(p, thing) > 0)
                .reduce((a, b) -> claim(b, thing) > claim(a, thing) ? b : a).orElse(-1);
            if (who >= 0) {
                now.where[t] = 10 + who;
                taken++;
            }
        }
        return taken;
    }

    private int doDeed(long v) {
        if (v == -1) {
            aDay();
            return 0;
        }
        if (v >= 0 && v <= 9) {
            return doLeave(v);
        }
        if (v >= 10 && v <= 19) {
            return doOpen((int) (v - 10));
        }
        if (v >= 100 && v <= 199) {
            return doFetch((int) (v - 100) / 10, (int) (v % 10));
        }
        if (v >= 200 && v <= 299) {
            return doSwap((int) (v - 200) / 10, (int) (v % 10));
        }
        if (v >= 300 && v <= 399) {
            return doMark((int) (v - 300) / 10, (int) (v % 10));
        }
        return 1;
    }

    public int seed(int n) {
        keep(now.copy());
        int was = now.x;
        now.x = n;
        return was;
    }

    public int leave(int p) {
        Now before = now.copy();
        int t = isPerson(p) ? held(now, p) : -1;
        int why = doLeave(p);
        if (why == 0) {
            keep(before);
            return t;
        }
        return -10 - why;
    }

    public int fetch(int p, int t) {
        Now before = now.copy();
        int why = doFetch(p, t);
        if (why == 0) {
            keep(before);
            return (int) Arrays.stream(now.where).filter(w -> w == 99).count();
        }
        return -10 - why;
    }

    public int open(int p) {
        Now before = now.copy();
        int why = doOpen(p);
        if (why == 0) {
            keep(before);
            return now.borne[p];
        }
        return -10 - why;
    }

    public int swap(int p, int q) {
        Now before = now.copy();
        int why = doSwap(p, q);
        if (why == 0) {
            keep(before);
            return held(now, p);
        }
        return -10 - why;
    }

    public int mark(int p, int n) {
        Now before = now.copy();
        int why = doMark(p, n);
        if (why == 0) {
            keep(before);
            return before.mark[p];
        }
        return -10 - why;
    }

    public int days(int n) {
        if (n < 1 || n > 99) {
            return -3;
        }
        keep(now.copy());
        int taken = 0;
        for (int i = 0; i < n; i++) {
            taken += aDay();
        }
        return taken;
    }

    public int undo(int n) {
        if (n < 1 || n > 10 || n > past.size()) {
            return -3;
        }
        for (int i = 0; i < n; i++) {
            now = past.pop();
        }
        return past.size();
    }

    public int judge(int tray, int what) {
        if (tray < 0 || tray > 3 || what < 0 || what > 3) {
            return -2;
        }
        if (trays[tray] == null) {
            return -6;
        }
        Now before = now.copy();
        int place = -1;
        int why = 0;
        for (int i = 0; i < trays[tray].length && why == 0; i++) {
            why = doDeed(trays[tray][i]);
            place = why == 0 ? -1 : i;
        }
        int bits = 0;
        for (int p = 0; p < told.people.size(); p++) {
            bits += held(now, p) >= 0 ? 1 << p : 0;
        }
        int office = (int) Arrays.stream(now.where).filter(w -> w == 99).count();
        now = before;
        return new int[] {place, why, bits, office}[what];
    }

    public int perform(int tray) {
        if (tray < 0 || tray > 3) {
            return -2;
        }
        if (trays[tray] == null) {
            return -6;
        }
        Now before = now.copy();
        int done = 0;
        while (done < trays[tray].length && doDeed(trays[tray][done]) == 0) {
            done++;
        }
        if (done > 0) {
            keep(before);
        }
        return done;
    }

    public int season(int seed, int times) {
        if (times < 1 || times > 40) {
            return -3;
        }
        Now before = now.copy();
        now.x = seed;
        int done = 0;
        for (int i = 0; i < times; i++) {
            int why = 0;
            int p;
            switch (draw() % 6) {
                case 0, 1 -> aDay();
                case 2 -> why = doLeave(draw() % 6);
                case 3 -> why = doOpen(draw() % 6);
                case 4 -> {
                    p = draw() % 6;
                    why = doFetch(p, draw() % 8);
                }
                default -> {
                    p = draw() % 6;
                    why = doSwap(p, draw() % 6);
                }
            }
            done += why == 0 ? 1 : 0;
        }
        if (done == 0) {
            now = before;
        } else {
            keep(before);
        }
        return done;
    }

    // ---- left: by real days on a copy of now

    private int[][] leftOn(int[] things, int[] stations) {
        Now before = now;
        now = now.copy();
        for (int t = 0; t < now.where.length; t++) {
            if (now.where[t] < 10) {
                now.where[t] = NOWHERE;
            }
        }
        for (int i = 0; i < things.length; i++) {
            now.where[things[i]] = stations[i];
        }
        int[] who = new int[things.length];
        int[] days = new int[things.length];
        for (int day = 1; day < 10; day++) {
            aDay();
            for (int i = 0; i < things.length; i++) {
                if (days[i] == 0 && now.where[things[i]] >= 10) {
                    days[i] = day;
                    who[i] = now.where[things[i]] == 99 ? -1 : now.where[things[i]] - 10;
                }
            }
        }
        now = before;
        return new int[][] {who, days};
    }

    public int goes(int t, int station) {
        return isThing(t) && isStation(station) ? leftOn(new int[] {t}, new int[] {station})[0][0] : -2;
    }

    public int takes(int t, int station) {
        return isThing(t) && isStation(station) ? leftOn(new int[] {t}, new int[] {station})[1][0] : -2;
    }

    public int sources(int t, int p) {
        if (!isThing(t) || !isPerson(p)) {
            return -2;
        }
        int bits = 0;
        for (int s = 0; s < told.stations; s++) {
            bits += goes(t, s) == p ? 1 << s : 0;
        }
        return bits;
    }

    private int planRefused(int tray) {
        if (tray < 0 || tray > 3) {
            return -2;
        }
        if (trays[tray] == null) {
            return -6;
        }
        long[] v = trays[tray];
        if (v.length == 0 || v.length > 3) {
            return -4;
        }
        for (int i = 0; i < v.length; i++) {
            if (v[i] < 0 || !isThing(v[i] / 10) || !isPerson(v[i] % 10)) {
                return -3;
            }
            for (int k = 0; k < i; k++) {
                if (v[i] / 10 == v[k] / 10 || v[i] % 10 == v[k] % 10) {
                    return -3;
                }
            }
        }
        return 0;
    }

    private List<int[]> allPlans(long[] v) {
        List<int[]> found = new ArrayList<>();
        int[] things = Arrays.stream(v).mapToInt(n -> (int) (n / 10)).toArray();
        int[] people = Arrays.stream(v).mapToInt(n -> (int) (n % 10)).toArray();
        int[] at = new int[v.length];
        while (true) {
            if (Arrays.equals(leftOn(things, at)[0], people)) {
                found.add(at.clone());
            }
            int i = v.length - 1;
            while (i >= 0 && at[i] == told.stations - 1) {
                at[i] = 0;
                i--;
            }
            if (i < 0) {
                return found;
            }
            at[i]++;
        }
    }

    public int plan(int tray, int i) {
        int code = planRefused(tray);
        if (code != 0) {
            return code;
        }
        if (i < 0 || i >= trays[tray].length) {
            return -7;
        }
        List<int[]> all = allPlans(trays[tray]);
        return all.isEmpty() ? -1 : all.get(0)[i];
    }

    public int plans(int tray) {
        int code = planRefused(tray);
        return code != 0 ? code : allPlans(trays[tray]).size();
    }

    // ---- whose: all givings there are, in their order

    private int bestSum;
    private int[] bestGiven;
    private int fullWays;
    private int most;
    private int served;

    private void allGivings(int[] given, int p, int used) {
        if (p == given.length) {
            int sum = 0;
            int count = 0;
            int bits = 0;
            for (int i = 0; i < p; i++) {
                if (given[i] >= 0) {
                    sum += claim(i, given[i]);
                    count++;
                    bits |= 1 << i;
                }
            }
            if (sum > bestSum) {
                bestSum = sum;
                bestGiven = given.clone();
            }
            fullWays += count == p ? 1 : 0;
            if (count > most) {
                most = count;
                served = 0;
            }
            served |= count == most ? bits : 0;
            return;
        }
        for (int t = 0; t < told.things.size(); t++) {
            if ((used >> t & 1) == 0 && claim(p, t) > 0) {
                given[p] = t;
                allGivings(given, p + 1, used | 1 << t);
            }
        }
        given[p] = -1;
        allGivings(given, p + 1, used);
    }

    private void giveAllWays() {
        bestSum = -1;
        fullWays = 0;
        most = -1;
        served = 0;
        allGivings(new int[told.people.size()], 0, 0);
    }

    public int match(int what) {
        if (what != 0 && !isPerson(what - 10L)) {
            return -2;
        }
        giveAllWays();
        return what == 0 ? bestSum : bestGiven[what - 10];
    }

    public int matchings() {
        giveAllWays();
        return fullWays;
    }

    public int without() {
        giveAllWays();
        return (1 << told.people.size()) - 1 & ~served;
    }

    public int fetches(int t, int what) {
        if (!isThing(t) || what < 0 || what > 1) {
            return -2;
        }
        int who = -1;
        for (int p = told.people.size() - 1; p >= 0; p--) {
            if (claim(p, t) > 0 && (who < 0 || claim(p, t) >= claim(who, t))) {
                who = p;
            }
        }
        if (what == 0) {
            return who;
        }
        int next = 0;
        for (int p = 0; p < told.people.size(); p++) {
            if (who >= 0 && p != who) {
                next = Math.max(next, claim(p, t));
            }
        }
        return next;
    }

    // ---- trades

    private int turns;

    private Map<Integer, Integer> traded() {
        Map<Integer, Integer> has = new TreeMap<>();
        List<Integer> in = new ArrayList<>();
        for (int p = 0; p < told.people.size(); p++) {
            if (held(now, p) >= 0) {
                in.add(p);
            }
        }
        turns = 0;
        while (!in.isEmpty()) {
            turns++;
            Map<Integer, Integer> to = new TreeMap<>();
            for (int p : in) {
                int best = held(now, p);
                for (int t = 0; t < now.where.length; t++) {
                    if (now.where[t] >= 10 && in.contains(now.where[t] - 10) && claim(p, t) > claim(p, best)) {
                        best = t;
                    }
                }
                to.put(p, now.where[best] - 10);
            }
            List<Integer> gone = new ArrayList<>();
            for (int p : in) {
                int q = p;
                for (int i = 0; i < in.size(); i++) {
                    q = to.get(q);
                    if (q == p) {
                        gone.add(p);
                        has.put(p, held(now, to.get(p)));
                        break;
                    }
                }
            }
            in.removeAll(gone);
        }
        return has;
    }

    public int trade(int p) {
        return isPerson(p) ? traded().getOrDefault(p, -1) : -2;
    }

    public int rounds() {
        traded();
        return turns;
    }

    public int traders() {
        return traded().entrySet().stream().mapToInt(e -> e.getValue() == held(now, e.getKey()) ? 0 : 1 << e.getKey())
            .sum();
    }

    public int bargain() {
        int least = Integer.MAX_VALUE;
        for (int p = 0; p < told.people.size(); p++) {
            for (int q = 0; q < told.people.size(); q++) {
                int a = held(now, p);
                int b = held(now, q);
                if (p != q && a >= 0 && b >= 0 && claim(p, b) > claim(p, a) && claim(q, a) > claim(q, b)) {
                    least = Math.min(least, 10 * p + q);
                }
            }
        }
        return least == Integer.MAX_VALUE ? -1 : least;
    }

    // ---- opening: all orders, each with all days' ends

    private int fewest;
    private int[] firstOrder;

    private void allOrders(int p, int rest, int[] order, int size, Map<Integer, Integer> daysByBorne) {
        if (daysByBorne.isEmpty()) {
            return;
        }
        if (rest == 0) {
            int days = daysByBorne.values().stream().min(Integer::compare).get();
            if (days < fewest) {
                fewest = days;
                firstOrder = Arrays.copyOf(order, size);
            }
            return;
        }
        for (int t = 0; t < 8; t++) {
            if ((rest >> t & 1) == 1) {
                Map<Integer, Integer> next = new TreeMap<>();
                for (Map.Entry<Integer, Integer> e : daysByBorne.entrySet()) {
                    int b = e.getKey();
                    int on = b + hard(p, t, false, b);
                    int anew = hard(p, t, false, 0);
                    if (on <= told.people.get(p).bears) {
                        next.merge(on, e.getValue(), Math::min);
                    }
                    if (anew <= told.people.get(p).bears) {
                        next.merge(anew, e.getValue() + 1, Math::min);
                    }
                }
                order[size] = t;
                allOrders(p, rest & ~(1 << t), order, size + 1, next);
            }
        }
    }

    private void openAllWays(int p, int set) {
        fewest = 1000;
        firstOrder = null;
        allOrders(p, set, new int[8], 0, new TreeMap<>(Map.of(0, set == 0 ? 0 : 1)));
    }

    public int opening(int p, int set) {
        if (!isPerson(p) || !isSet(set)) {
            return isPerson(p) ? -3 : -2;
        }
        openAllWays(p, set);
        return firstOrder == null ? -1 : fewest;
    }

    public int openedBy(int p, int set, int i) {
        if (!isPerson(p)) {
            return -2;
        }
        if (!isSet(set) || i < 0) {
            return -3;
        }
        openAllWays(p, set);
        return firstOrder == null || i >= firstOrder.length ? -1 : firstOrder[i];
    }

    public int inADay(int p, int set) {
        if (!isPerson(p) || !isSet(set)) {
            return isPerson(p) ? -3 : -2;
        }
        int best = 0;
        for (int part = 1; part <= set; part++) {
            if ((part & ~set) == 0 && Integer.bitCount(part) > Integer.bitCount(best) && canToday(p, part, 0)) {
                best = part;
            }
        }
        return best;
    }

    private boolean canToday(int p, int part, int borne) {
        if (part == 0) {
            return true;
        }
        for (int t = 0; t < 8; t++) {
            if ((part >> t & 1) == 1) {
                int then = borne + hard(p, t, false, borne);
                if (then <= told.people.get(p).bears && canToday(p, part & ~(1 << t), then)) {
                    return true;
                }
            }
        }
        return false;
    }

    // ---- by what was claimed

    private int answersRefused(int tray, int p) {
        if (tray < 0 || tray > 3 || !isPerson(p)) {
            return -2;
        }
        if (trays[tray] == null) {
            return -6;
        }
        if (trays[tray].length == 0 || trays[tray].length > 16) {
            return -4;
        }
        return Arrays.stream(trays[tray]).allMatch(v -> v >= 0 && isThing(v / 2)) ? 0 : -3;
    }

    private int[] marksLeft(int tray, int p) {
        return java.util.stream.IntStream.range(0, 10).filter(m -> Arrays.stream(trays[tray])
            .allMatch(v -> claim(p, (int) (v / 2), m) > 0 == (v % 2 == 1))).toArray();
    }

    public int marks(int tray, int p) {
        int code = answersRefused(tray, p);
        return code != 0 ? code : Arrays.stream(marksLeft(tray, p)).map(m -> 1 << m).sum();
    }

    public int show(int tray, int p) {
        int code = answersRefused(tray, p);
        if (code != 0) {
            return code;
        }
        int[] left = marksLeft(tray, p);
        int best = -1;
        IntBinaryOperator lesser = (t, ignored) -> {
            int yes = (int) Arrays.stream(left).filter(m -> claim(p, t, m) > 0).count();
            return Math.min(yes, left.length - yes);
        };
        for (int t = told.things.size() - 1; t >= 0 && left.length > 0; t--) {
            if (best < 0 || lesser.applyAsInt(t, 0) >= lesser.applyAsInt(best, 0)) {
                best = t;
            }
        }
        return best;
    }

    // ---- choosing

    private int play(int p, int q, int rest, boolean first) {
        if (rest == 0) {
            return 0;
        }
        int best = first ? Integer.MIN_VALUE : Integer.MAX_VALUE;
        for (int t = 0; t < 8; t++) {
            if ((rest >> t & 1) == 1) {
                int then = play(p, q, rest & ~(1 << t), !first);
                best = first ? Math.max(best, then + claim(p, t)) : Math.min(best, then - claim(q, t));
            }
        }
        return best;
    }

    public int game(int p, int q, int set) {
        if (!isPerson(p) || !isPerson(q) || p == q) {
            return -99000002;
        }
        return isSet(set) ? play(p, q, set, true) : -99000003;
    }

    public int picks(int p, int q, int set) {
        if (!isPerson(p) || !isPerson(q) || p == q) {
            return -2;
        }
        if (!isSet(set)) {
            return -3;
        }
        int value = play(p, q, set, true);
        for (int t = 0; t < 8; t++) {
            if ((set >> t & 1) == 1 && claim(p, t) + play(p, q, set & ~(1 << t), false) == value) {
                return t;
            }
        }
        return -1;
    }

    // ---- chances: all weathers

    private int chanceRefused(int tray, int p) {
        if (tray < 0 || tray > 3 || !isPerson(p)) {
            return -2;
        }
        if (trays[tray] == null) {
            return -6;
        }
        if (trays[tray].length == 0 || trays[tray].length > 10) {
            return -4;
        }
        return Arrays.stream(trays[tray]).allMatch(this::isThing) ? 0 : -3;
    }

    private java.math.BigInteger good(int tray, int p, int bears) {
        java.math.BigInteger sum = java.math.BigInteger.ZERO;
        int n = trays[tray].length;
        for (int weather = 0; weather < 1 << n; weather++) {
            long borne = 0;
            java.math.BigInteger share = java.math.BigInteger.ONE;
            for (int i = 0; i < n; i++) {
                boolean wet = (weather >> i & 1) == 1;
                borne += hard(p, (int) trays[tray][i], wet, borne);
                share = share.multiply(java.math.BigInteger.valueOf(wet ? told.wet : 10 - told.wet));
            }
            if (borne <= bears) {
                sum = sum.add(share);
            }
        }
        return sum;
    }

    public long chance(int tray, int p, int what) {
        if (what < 0 || what > 1) {
            return -2;
        }
        int code = chanceRefused(tray, p);
        if (code != 0) {
            return code;
        }
        java.math.BigInteger above = good(tray, p, told.people.get(p).bears);
        java.math.BigInteger below = java.math.BigInteger.TEN.pow(trays[tray].length);
        return (what == 0 ? above : below).divide(above.gcd(below)).longValueExact();
    }

    public int bearing(int tray, int p, int m) {
        int code = chanceRefused(tray, p);
        if (code != 0) {
            return code;
        }
        if (m < 0 || m > 100) {
            return -3;
        }
        java.math.BigInteger due = java.math.BigInteger.TEN.pow(trays[tray].length)
            .multiply(java.math.BigInteger.valueOf(m));
        int low = 0;
        int high = 999;
        while (low < high) {
            int mid = (low + high) / 2;
            if (good(tray, p, mid).multiply(java.math.BigInteger.valueOf(100)).compareTo(due) >= 0) {
                high = mid;
            } else {
                low = mid + 1;
            }
        }
        return low;
    }

    // ---- trays, images

    public int numbers(int tray, int sort, int n) {
        if (tray < 0 || tray > 3 || sort < 0 || sort > 3) {
            return -2;
        }
        if (n < 0 || n > 40) {
            return -3;
        }
        trays[tray] = new long[n];
        sorts[tray] = sort;
        return 0;
    }

    public long write(int tray, int i, long v) {
        if (tray < 0 || tray > 3) {
            return -2;
        }
        if (trays[tray] == null) {
            return -6;
        }
        if (i < 0 || i >= trays[tray].length) {
            return -7;
        }
        int drop = 64 - (8 << sorts[tray]);
        trays[tray][i] = v << drop >> drop;
        return trays[tray][i];
    }

    public int lists(int tray, int p, int set) {
        if (tray < 0 || tray > 3 || !isPerson(p)) {
            return -2;
        }
        if (trays[tray] == null) {
            return -6;
        }
        if (!isSet(set)) {
            return -3;
        }
        openAllWays(p, set);
        if (firstOrder == null) {
            return -5;
        }
        int i = 0;
        while (i < trays[tray].length && i < firstOrder.length) {
            trays[tray][i] = firstOrder[i];
            i++;
        }
        return i;
    }

    public int image(int i) {
        if (i < 0 || i > 1) {
            return -2;
        }
        imageTold[i] = told;
        imageNow[i] = now.copy();
        return 0;
    }

    public int restore(int i) {
        if (i < 0 || i > 1) {
            return -2;
        }
        if (imageTold[i] == null) {
            return -5;
        }
        told = imageTold[i];
        now = imageNow[i].copy();
        past.clear();
        return 0;
    }

    public int count(int what) {
        int office = 0;
        int held = 0;
        for (int t = 0; t < now.where.length; t++) {
            office |= now.where[t] == 99 ? 1 << t : 0;
            held |= now.where[t] >= 10 && now.where[t] < 99 ? 1 << t : 0;
        }
        int[] all = {told.stations, told.things.size(), told.people.size(), office, held, now.wet ? 1 : 0, now.day,
            past.size(), tape.length, told.lines};
        return what >= 0 && what < all.length ? all[what] : -1;
    }
}
