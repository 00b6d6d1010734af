/** Promises 1 to 8, the line: a test for each of their sentences. */
public final class LinePromisesTest {
    private static final Sentences DOC = new Sentences("LinePromisesTest");
    private static final String LINE = "line 8;thing at 7 hue 3 weight 4;thing at 0 hue 9;thing at 5 weight 9;thing at 6;"
        + "person at 2 mark 3 bears 20 holds 0;person at 7 mark 9;person at 1 bears 0 holds 2;wet 10;";

    public static void main(String[] args) {
        newObject();
        feed();
        feedFull();
        lineOfTheTape();
        lineBeginsAnew();
        lineCounts();
        lineRefused();
        fault();
        thingIsWhere();
        thingLooks();
        person();
        claims();
        burden();
        DOC.end();
    }

    private static void due(String call, long got, long want) {
        DOC.due(call, got, want);
    }

    private static void newObject() {
        DOC.promise(1);
        DOC.says("2 STATIONS, no THINGS, no PEOPLE.");
        GampLine x = new GampLine();
        due("STATIONS", x.count(0), 2);
        due("THINGS", x.count(1), 0);
        due("PEOPLE", x.count(2), 0);
        for (int t = 0; t < 8; t++) {
            due("no THING " + t, x.thing(t, 0), -2);
        }
        for (int p = 0; p < 6; p++) {
            due("no PERSON " + p, x.person(p, 0), -2);
        }
        due("no THING is taken", x.days(99), 0);
        due("none goes to the OFFICE", x.count(3), 0);
        due("none is HELD", x.count(4), 0);
        Check.tell(x, LINE);
        x.days(3);
        x.numbers(0, 0, 1);
        x.image(0);
        GampLine y = new GampLine();
        DOC.same("whatever another object has", Seen.whole(y), Seen.whole(new GampLine()));
        due("STATIONS of the other one", x.count(0), 8);
    }

    /** Twenty bytes, all of them blanks but one. */
    private static int feedWith(GampLine x, int at, int sign) {
        int[] four = {0x20202020, 0x20202020, 0x20202020, 0x20202020, 0x20202020};
        int shift = 24 - 8 * (at % 4);
        four[at / 4] = four[at / 4] & ~(255 << shift) | sign << shift;
        return x.feed(four[0], four[1], four[2], four[3], four[4]);
    }

    private static void feed() {
        DOC.promise(2);
        DOC.says("Twenty bytes come behind those on THE TAPE, the highest of each int first: how many it has.");
        for (int at = 0; at < 20; at++) {
            GampLine x = new GampLine();
            due("how many it has", x.feed(0x6c696e65, 0x20323b20, 0x20202020, 0x20202020, 0x20202020), 20);
            due("how many it has then", feedWith(x, at, '?'), 40);
            due("a wrong byte", x.line(40), -31);
            due("where it came", x.fault(1), 20 + at);
        }
        GampLine x = new GampLine();
        x.feed(0x6c696e65, 0x20383b74, 0x68696e67, 0x20617420, 0x3720203b);
        due("read as it was told", x.line(20), 2);
        due("where", x.thing(0, 0), 7);
        x.feed(-1, 0x80000000, 0x7fffffff, 0x00ff00ff, 0);
        due("any bytes", x.count(8), 20);
    }

    private static void feedFull() {
        DOC.says("-5: it would have more than 900.");
        GampLine x = new GampLine();
        for (int i = 1; i <= 44; i++) {
            due("feed", x.feed(0x20202020, 0x20202020, 0x20202020, 0x20202020, 0x20202020), 20 * i);
        }
        due("just 900", feedWith(x, 19, '?'), 900);
        for (int i = 0; i < 3; i++) {
            due("more than 900", x.feed(0, 0, 0, 0, 0), -5);
            due("none came", x.count(8), 900);
        }
        due("the last one stays", x.line(900), -31);
        due("where it is", x.fault(1), 899);
        due("room again", x.feed(0, 0, 0, 0, 0), 20);
    }

    private static void lineOfTheTape() {
        DOC.promise(3);
        DOC.says("The first n bytes of THE TAPE (which is empty then) are THE LINE,");
        byte[] text = "line 2;wet 1;wet 2;".getBytes(java.nio.charset.StandardCharsets.ISO_8859_1);
        for (int n = 0; n <= 20; n++) {
            GampLine x = new GampLine();
            Check.feed(x, text);
            int lines = n < 7 ? -32 : n == 7 ? 1 : n < 13 ? -32 : n == 13 ? 2 : n < 19 ? -32 : 3;
            due("line(" + n + ")", x.line(n), lines);
            // A word that is cut can't stand there; else it is the end that can't.
            int place = n < 4 ? 0 : n == 8 || n == 9 ? 7 : n == 14 || n == 15 ? 13 : n;
            due("its end", x.fault(1), lines < 0 ? place : -1);
            due("THE TAPE is empty", x.count(8), 0);
            due("nothing is left of it", x.line(1), -3);
            due("fed anew", x.feed(0, 0, 0, 0, 0), 20);
        }
    }

    private static void lineBeginsAnew() {
        DOC.says("nothing was BORNE nor OPENED, x, DAY are 0, it is dry, nothing can be UNDONE:");
        GampLine x = Check.told(LINE);
        x.seed(5);
        x.days(3);
        x.open(0);
        x.mark(1, 4);
        x.leave(2);
        due("BORNE", x.person(0, 4), 4);
        due("OPENED", x.thing(0, 3), 1);
        due("WET", x.count(5), 1);
        due("DAY", x.count(6), 3);
        due("can be UNDONE", x.count(7), 5);
        due("told once more", Check.tell(x, LINE), 9);
        for (int p = 0; p < 3; p++) {
            due("nothing BORNE", x.person(p, 4), 0);
        }
        for (int t = 0; t < 4; t++) {
            due("nothing OPENED", x.thing(t, 3), 0);
        }
        due("MARK as told", x.person(1, 1), 9);
        due("HELD as told", x.person(2, 3), 2);
        due("dry", x.count(5), 0);
        due("DAY", x.count(6), 0);
        due("nothing can be UNDONE", x.count(7), 0);
        due("undo", x.undo(1), -3);
        due("x", x.seed(1), 0);
        Check.tell(x, "line 2;thing at 0;person at 0 holds 0;");
        due("by a shorter one: THINGS", x.count(1), 1);
        due("no more of them", x.thing(1, 0), -2);
        due("PEOPLE", x.count(2), 1);
        due("STATIONS", x.count(0), 2);
    }

    private static void lineCounts() {
        DOC.says("how many LINES (line, too; all stays with a FAULT).");
        StringBuilder text = new StringBuilder("line 2;");
        GampLine x = new GampLine();
        for (int n = 1; n <= 100; n++) {
            due(n + " LINES", Check.tell(x, text.toString()), n);
            due("count(9)", x.count(9), n);
            text.append(n % 3 == 0 ? "opens:1;" : "wet " + n % 10 + ";");
        }
        x = Check.told(LINE);
        x.seed(12);
        x.open(0);
        x.days(2);
        GampLine y = Check.told(LINE);
        y.seed(12);
        y.open(0);
        y.days(2);
        due("a FAULT behind a whole other line", Check.tell(x, "line 3;thing at 0;person at 1;claims:5;opens:6;wet 3;wet 11;"), -33);
        due("a like FAULT", Check.tell(y, "line 2;wet 11;" + " ".repeat(60)), -33);
        due("its place", x.fault(1) > y.fault(1) ? 1 : 0, 1);
        due("one at a like place", Check.tell(x, "line 1;"), -33);
        due("one at a like place", Check.tell(y, "line 1;"), -33);
        DOC.same("all stays", Seen.whole(x), Seen.whole(y));
    }

    private static void lineRefused() {
        DOC.says("-3: n is below 0 or above what there is (THE TAPE stays);");
        GampLine x = new GampLine();
        due("above none", x.line(1), -3);
        Check.feed(x, "line 4;".getBytes(java.nio.charset.StandardCharsets.ISO_8859_1));
        int[] wrong = {-1, 21, 900, Integer.MAX_VALUE, Integer.MIN_VALUE};
        for (int n : wrong) {
            due("line(" + n + ")", x.line(n), -3);
            due("THE TAPE stays", x.count(8), 20);
            due("no FAULT was read", x.fault(0), 0);
        }
        due("all there is", x.line(20), 1);
        due("STATIONS", x.count(0), 4);
        DOC.says("-30 less the FAULT.");
        due("1", Check.tell(x, "!"), -31);
        due("2", Check.tell(x, "line"), -32);
        due("2, of no bytes", x.line(0), -32);
        due("3", Check.tell(x, "line 0;"), -33);
        due("4", Check.tell(x, "line 2;" + "person at 0;".repeat(7)), -34);
        due("none of these was THE LINE", x.count(0), 4);
    }

    private static void fault() {
        DOC.promise(4);
        DOC.says("Of the latest line() that was read, what 0: its FAULT (0), 1: its place (NONE).");
        GampLine x = new GampLine();
        due("none was read", x.fault(0), 0);
        due("none was read", x.fault(1), -1);
        Check.tell(x, "line 3;wet 11;");
        due("its FAULT", x.fault(0), 3);
        due("its place", x.fault(1), 11);
        due("another one isn't read", x.line(1), -3);
        due("the FAULT of the latest that was", x.fault(0), 3);
        due("its place", x.fault(1), 11);
        x.days(1);
        x.undo(1);
        x.image(0);
        x.restore(0);
        due("whatever else is done", x.fault(1), 11);
        Check.tell(x, "?");
        due("the latest FAULT", x.fault(0), 1);
        due("its place", x.fault(1), 0);
        Check.tell(x, "line 2;");
        due("no FAULT", x.fault(0), 0);
        due("no place", x.fault(1), -1);
        DOC.says("NONE for others.");
        Check.tell(x, "line 3;wet 11;");
        for (int what : new int[] {-1, 2, 3, 10, Integer.MAX_VALUE, Integer.MIN_VALUE}) {
            due("fault(" + what + ")", x.fault(what), -1);
        }
    }

    private static void thingIsWhere() {
        DOC.promise(5);
        DOC.says("Of a THING, what 0: where: 0 to 7 the STATION of its RACK, 10 and the PERSON that HOLDS it, 99 the OFFICE,");
        for (int s = 0; s < 8; s++) {
            GampLine x = Check.told("line 8;thing at " + s + ";");
            due("its RACK", x.thing(0, 0), s);
            x.days(1);
            due("then", x.thing(0, 0), s == 7 ? 99 : s + 1);
        }
        StringBuilder text = new StringBuilder("line 8;" + "thing at 0;".repeat(8));
        for (int p = 0; p < 6; p++) {
            text.append("person at 0 holds ").append(7 - p).append(';');
        }
        GampLine x = Check.told(text.toString());
        for (int p = 0; p < 6; p++) {
            due("HELD by " + p, x.thing(7 - p, 0), 10 + p);
        }
        due("HELD by nobody", x.thing(0, 0), 0);
    }

    private static void thingLooks() {
        DOC.says("1: hue, 2: weight, 3: how often it was OPENED.");
        GampLine x = Check.told(LINE);
        int[] hue = {3, 9, 0, 0};
        int[] weight = {4, 0, 9, 0};
        for (int t = 0; t < 4; t++) {
            due("hue", x.thing(t, 1), hue[t]);
            due("weight", x.thing(t, 2), weight[t]);
            due("OPENED", x.thing(t, 3), 0);
        }
        for (int i = 1; i <= 5; i++) {
            due("OPENED", x.open(0), 4 * i);
            due("so often", x.thing(0, 3), i);
        }
        due("it can't be", x.open(0), -13);
        due("so often still", x.thing(0, 3), 5);
        x.days(1);
        x.open(0);
        due("on another DAY, too", x.thing(0, 3), 6);
        x.undo(1);
        due("UNDONE", x.thing(0, 3), 5);
        due("others weren't", x.thing(1, 3), 0);
        DOC.says("-2.");
        for (int t : new int[] {-1, 4, 8, Integer.MAX_VALUE, Integer.MIN_VALUE}) {
            for (int what = -1; what <= 4; what++) {
                due("thing(" + t + ", " + what + ")", x.thing(t, what), -2);
            }
        }
        for (int what : new int[] {-1, 4, 5, Integer.MAX_VALUE, Integer.MIN_VALUE}) {
            due("thing(0, " + what + ")", x.thing(0, what), -2);
        }
    }

    private static void person() {
        DOC.promise(6);
        DOC.says("Of a PERSON, what 0: its STATION, 1: MARK, 2: what it bears, 3: the THING it HOLDS (NONE), 4: what it has BORNE.");
        GampLine x = Check.told(LINE);
        int[][] due = {{2, 3, 20, 0, 0}, {7, 9, 10, -1, 0}, {1, 0, 0, 2, 0}};
        for (int p = 0; p < 3; p++) {
            for (int what = 0; what < 5; what++) {
                due("person(" + p + ", " + what + ")", x.person(p, what), due[p][what]);
            }
        }
        x.open(0);
        due("BORNE", x.person(0, 4), 4);
        x.mark(0, 1);
        due("MARK", x.person(0, 1), 1);
        x.swap(0, 2);
        due("HOLDS", x.person(0, 3), 2);
        x.leave(0);
        due("HOLDS none", x.person(0, 3), -1);
        x.days(1);
        due("BORNE on a new DAY", x.person(0, 4), 0);
        DOC.says("-2.");
        for (int p : new int[] {-1, 3, 6, Integer.MAX_VALUE, Integer.MIN_VALUE}) {
            for (int what = -1; what <= 5; what++) {
                due("person(" + p + ", " + what + ")", x.person(p, what), -2);
            }
        }
        for (int what : new int[] {-1, 5, 6, Integer.MAX_VALUE, Integer.MIN_VALUE}) {
            due("person(0, " + what + ")", x.person(0, what), -2);
        }
    }

    private static void claims() {
        DOC.promise(7);
        DOC.says("How much a PERSON CLAIMS a THING.");
        GampLine x = Check.told(LINE + "claims:(who+1)*100+thing*10-mark;");
        for (int p = 0; p < 3; p++) {
            for (int t = 0; t < 4; t++) {
                due("claims(" + p + ", " + t + ")", x.claims(p, t), 100 * (p + 1) + 10 * t - x.person(p, 1));
            }
        }
        x.mark(2, 9);
        due("by its MARK now", x.claims(2, 3), 321);
        due("the greatest", Check.told(LINE + "claims:999*999*999;").claims(0, 0), 1000000);
        due("the least", Check.told(LINE + "claims:0-999*999*999;").claims(0, 0), -1000000);
        DOC.says("-99000002.");
        for (int n : new int[] {-1, 8, Integer.MAX_VALUE, Integer.MIN_VALUE}) {
            due("claims(" + n + ", 0)", x.claims(n, 0), -99000002);
            due("claims(0, " + n + ")", x.claims(0, n), -99000002);
        }
        due("claims(3, 0)", x.claims(3, 0), -99000002);
        due("claims(0, 4)", x.claims(0, 4), -99000002);
        due("without PEOPLE", new GampLine().claims(0, 0), -99000002);
    }

    private static void burden() {
        DOC.promise(8);
        DOC.says("Which BURDEN a THING is to a PERSON now.");
        GampLine x = Check.told(LINE + "opens:who*40+weight+borne*2+wet*30;");
        due("dry, none BORNE", x.burden(0, 0), 4);
        x.open(0);
        due("4 BORNE", x.burden(0, 0), 12);
        due("another THING", x.burden(0, 2), 17);
        due("another PERSON", x.burden(1, 0), 44);
        x.days(1);
        due("WET, none BORNE", x.burden(0, 0), 34);
        due("99 at most", x.burden(2, 0), 99);
        DOC.says("-2.");
        for (int n : new int[] {-1, 8, Integer.MAX_VALUE, Integer.MIN_VALUE}) {
            due("burden(" + n + ", 0)", x.burden(n, 0), -2);
            due("burden(0, " + n + ")", x.burden(0, n), -2);
        }
        due("burden(3, 0)", x.burden(3, 0), -2);
        due("burden(0, 4)", x.burden(0, 4), -2);
        due("without PEOPLE", new GampLine().burden(0, 0), -2);
    }
}
