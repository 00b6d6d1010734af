import java.util.function.ToLongFunction;

/** The document's terms, part 3, on refused calls: each code of each call, nothing changed by it, which goes first. */
public final class RefusedSentencesTest {
    private static final Sentences DOC = new Sentences("RefusedSentencesTest");
    private static final String LINE = "line 5;thing at 0 weight 1;thing at 0 hue 1 weight 2;thing at 0 hue 2 weight 3;"
        + "thing at 0 hue 3 weight 4;thing at 1 hue 4;thing at 2 hue 5;thing at 4 hue 4;thing at 4 hue 9;"
        + "person at 0 holds 0;person at 1 mark 1 holds 1 bears 3;person at 2 mark 2 holds 2;"
        + "person at 4 mark 3 holds 3 bears 3;person at 3 mark 4 bears 0;person at 3 mark 5;wet 5;";
    private static final int FAR_2 = -99000002;
    private static final int FAR_3 = -99000003;

    public static void main(String[] args) {
        DOC.section("nothing can be UNDONE behind (none at first).", "The constants");
        theLine();
        deeds();
        left();
        whoseAndTrades();
        openings();
        answersAndChoosing();
        chances();
        traysAndImages();
        faults();
        codesOfMeaning();
        whichGoesFirst();
        farCodes();
        DOC.end();
    }

    /**
     * A line in the middle of things: tray 0 is missing, 1 has no numbers, 2 has three that are none such, 3 has forty;
     * image 1 wasn't made; the tape is full; more than ten calls could be undone.
     */
    private static GampLine inTheMiddle() {
        GampLine x = Check.told(LINE);
        Check.tell(x, "line 2;wet 11;");
        x.numbers(1, 0, 0);
        Check.fill(x, 2, 3, -5, 0, 999);
        x.numbers(3, 1, 40);
        x.seed(33);
        x.open(0);
        x.image(0);
        for (int i = 0; i < 11; i++) {
            x.mark(0, i % 3);
        }
        x.open(1);
        x.swap(2, 3);
        for (int i = 0; i < 45; i++) {
            x.feed(i, i, i, i, i);
        }
        return x;
    }

    private static GampLine atFirst() {
        return new GampLine();
    }

    private static void refused(String call, ToLongFunction<GampLine> asked, long code) {
        GampLine x = inTheMiddle();
        DOC.due(call, asked.applyAsLong(x), code);
        DOC.same(call + " changes nothing", Seen.whole(x), Seen.whole(inTheMiddle()));
    }

    private static void theLine() {
        DOC.says("Refused calls answer by a code and change nothing:");
        refused("feed", x -> x.feed(1, 2, 3, 4, 5), -5);
        refused("line(-1)", x -> x.line(-1), -3);
        refused("line(901)", x -> x.line(901), -3);
        refused("line(least)", x -> x.line(Integer.MIN_VALUE), -3);
        int[] none = {-1, 8, 9, Integer.MAX_VALUE, Integer.MIN_VALUE};
        for (int t : none) {
            refused("thing(" + t + ", 0)", x -> x.thing(t, 0), -2);
            refused("claims(0, " + t + ")", x -> x.claims(0, t), FAR_2);
            refused("burden(0, " + t + ")", x -> x.burden(0, t), -2);
        }
        for (int p : new int[] {-1, 6, 7, Integer.MAX_VALUE, Integer.MIN_VALUE}) {
            refused("person(" + p + ", 0)", x -> x.person(p, 0), -2);
            refused("claims(" + p + ", 0)", x -> x.claims(p, 0), FAR_2);
            refused("burden(" + p + ", 0)", x -> x.burden(p, 0), -2);
        }
        refused("thing(0, 4)", x -> x.thing(0, 4), -2);
        refused("thing(0, -1)", x -> x.thing(0, -1), -2);
        refused("person(0, 5)", x -> x.person(0, 5), -2);
        refused("person(0, -1)", x -> x.person(0, -1), -2);
    }

    private static void deeds() {
        for (int p : new int[] {-1, 6, 90}) {
            refused("leave(" + p + ")", x -> x.leave(p), -11);
            refused("open(" + p + ")", x -> x.open(p), -11);
            refused("fetch(" + p + ", 0)", x -> x.fetch(p, 0), -11);
            refused("swap(" + p + ", 0)", x -> x.swap(p, 0), -11);
            refused("swap(0, " + p + ")", x -> x.swap(0, p), -11);
            refused("mark(" + p + ", 0)", x -> x.mark(p, 0), -11);
        }
        refused("leave(4)", x -> x.leave(4), -12);
        refused("open(4)", x -> x.open(4), -12);
        refused("fetch(4, 8)", x -> x.fetch(4, 8), -11);
        refused("fetch(0, 6)", x -> x.fetch(0, 6), -12);
        refused("fetch(4, 4)", x -> x.fetch(4, 4), -13);
        refused("open(1)", x -> x.open(1), -13);
        refused("swap(0, 0)", x -> x.swap(0, 0), -11);
        refused("swap(0, 4)", x -> x.swap(0, 4), -12);
        refused("swap(5, 1)", x -> x.swap(5, 1), -12);
        refused("mark(0, 10)", x -> x.mark(0, 10), -11);
        refused("mark(0, -1)", x -> x.mark(0, -1), -11);
        for (int n : new int[] {0, -1, 100, Integer.MAX_VALUE, Integer.MIN_VALUE}) {
            refused("days(" + n + ")", x -> x.days(n), -3);
            refused("undo(" + n + ")", x -> x.undo(n), -3);
            refused("season(5, " + n + ")", x -> x.season(5, n), -3);
        }
        refused("undo(11)", x -> x.undo(11), -3);
        refused("season(5, 41)", x -> x.season(5, 41), -3);
        for (int tray : new int[] {-1, 4, Integer.MAX_VALUE, Integer.MIN_VALUE}) {
            refused("judge(" + tray + ", 0)", x -> x.judge(tray, 0), -2);
            refused("perform(" + tray + ")", x -> x.perform(tray), -2);
        }
        refused("judge(1, 4)", x -> x.judge(1, 4), -2);
        refused("judge(1, -1)", x -> x.judge(1, -1), -2);
        refused("judge(0, 0)", x -> x.judge(0, 0), -6);
        refused("perform(0)", x -> x.perform(0), -6);
    }

    private static void left() {
        for (int t : new int[] {-1, 8, Integer.MAX_VALUE, Integer.MIN_VALUE}) {
            refused("goes(" + t + ", 0)", x -> x.goes(t, 0), -2);
            refused("takes(" + t + ", 0)", x -> x.takes(t, 0), -2);
            refused("sources(" + t + ", 0)", x -> x.sources(t, 0), -2);
            refused("goes(0, " + t + ")", x -> x.goes(0, t), -2);
            refused("takes(0, " + t + ")", x -> x.takes(0, t), -2);
            refused("sources(0, " + t + ")", x -> x.sources(0, t), -2);
        }
        refused("goes(0, 5)", x -> x.goes(0, 5), -2);
        refused("takes(0, 5)", x -> x.takes(0, 5), -2);
        refused("sources(0, 6)", x -> x.sources(0, 6), -2);
        int[] codes = {-6, -4, -3, -4, -2, -2};
        int[] trays = {0, 1, 2, 3, 4, -1};
        for (int i = 0; i < 6; i++) {
            int tray = trays[i];
            refused("plan(" + tray + ", 0)", x -> x.plan(tray, 0), codes[i]);
            refused("plans(" + tray + ")", x -> x.plans(tray), codes[i]);
        }
    }

    private static void whoseAndTrades() {
        for (int what : new int[] {-1, 1, 9, 16, 20, Integer.MIN_VALUE, Integer.MIN_VALUE + 9, Integer.MAX_VALUE}) {
            refused("match(" + what + ")", x -> x.match(what), -2);
        }
        for (int t : new int[] {-1, 8, Integer.MAX_VALUE}) {
            refused("fetches(" + t + ", 0)", x -> x.fetches(t, 0), -2);
            refused("fetches(" + t + ", 1)", x -> x.fetches(t, 1), -2);
            refused("trade(" + t + ")", x -> x.trade(t), -2);
        }
        refused("fetches(0, 2)", x -> x.fetches(0, 2), -2);
        refused("fetches(0, -1)", x -> x.fetches(0, -1), -2);
        refused("trade(6)", x -> x.trade(6), -2);
    }

    private static void openings() {
        for (int p : new int[] {-1, 6, Integer.MAX_VALUE}) {
            refused("opening(" + p + ", 1)", x -> x.opening(p, 1), -2);
            refused("openedBy(" + p + ", 1, 0)", x -> x.openedBy(p, 1, 0), -2);
            refused("inADay(" + p + ", 1)", x -> x.inADay(p, 1), -2);
        }
        for (int set : new int[] {-1, 256, 257, 511, Integer.MAX_VALUE, Integer.MIN_VALUE}) {
            refused("opening(0, " + set + ")", x -> x.opening(0, set), -3);
            refused("openedBy(0, " + set + ", 0)", x -> x.openedBy(0, set, 0), -3);
            refused("inADay(0, " + set + ")", x -> x.inADay(0, set), -3);
        }
        refused("openedBy(0, 1, -1)", x -> x.openedBy(0, 1, -1), -3);
        refused("openedBy(0, 1, least)", x -> x.openedBy(0, 1, Integer.MIN_VALUE), -3);
    }

    private static void answersAndChoosing() {
        int[] codes = {-6, -4, -3, -4, -2, -2};
        int[] trays = {0, 1, 2, 3, 4, -1};
        for (int i = 0; i < 6; i++) {
            int tray = trays[i];
            refused("marks(" + tray + ", 0)", x -> x.marks(tray, 0), codes[i]);
            refused("show(" + tray + ", 0)", x -> x.show(tray, 0), codes[i]);
        }
        for (int p : new int[] {-1, 6, Integer.MAX_VALUE}) {
            refused("marks(2, " + p + ")", x -> x.marks(2, p), -2);
            refused("show(2, " + p + ")", x -> x.show(2, p), -2);
            refused("game(0, " + p + ", 1)", x -> x.game(0, p, 1), FAR_2);
            refused("game(" + p + ", 0, 1)", x -> x.game(p, 0, 1), FAR_2);
            refused("picks(0, " + p + ", 1)", x -> x.picks(0, p, 1), -2);
            refused("picks(" + p + ", 0, 1)", x -> x.picks(p, 0, 1), -2);
        }
        refused("game(1, 1, 1)", x -> x.game(1, 1, 1), FAR_2);
        refused("picks(1, 1, 1)", x -> x.picks(1, 1, 1), -2);
        for (int set : new int[] {-1, 256, Integer.MAX_VALUE, Integer.MIN_VALUE}) {
            refused("game(0, 1, " + set + ")", x -> x.game(0, 1, set), FAR_3);
            refused("picks(0, 1, " + set + ")", x -> x.picks(0, 1, set), -3);
        }
    }

    private static void chances() {
        int[] codes = {-6, -4, -3, -4, -2, -2};
        int[] trays = {0, 1, 2, 3, 4, -1};
        for (int i = 0; i < 6; i++) {
            int tray = trays[i];
            refused("chance(" + tray + ", 0, 0)", x -> x.chance(tray, 0, 0), codes[i]);
            refused("bearing(" + tray + ", 0, 50)", x -> x.bearing(tray, 0, 50), codes[i]);
        }
        for (int p : new int[] {-1, 6, Integer.MAX_VALUE}) {
            refused("chance(2, " + p + ", 0)", x -> x.chance(2, p, 0), -2);
            refused("bearing(2, " + p + ", 0)", x -> x.bearing(2, p, 0), -2);
        }
        refused("chance(2, 0, 2)", x -> x.chance(2, 0, 2), -2);
        refused("chance(2, 0, -1)", x -> x.chance(2, 0, -1), -2);
    }

    private static void traysAndImages() {
        for (int tray : new int[] {-1, 4, Integer.MAX_VALUE, Integer.MIN_VALUE}) {
            refused("numbers(" + tray + ", 0, 1)", x -> x.numbers(tray, 0, 1), -2);
            refused("numbers(2, " + tray + ", 1)", x -> x.numbers(2, tray, 1), -2);
            refused("write(" + tray + ", 0, 1)", x -> x.write(tray, 0, 1), -2);
            refused("lists(" + tray + ", 0, 1)", x -> x.lists(tray, 0, 1), -2);
        }
        for (int n : new int[] {-1, 41, Integer.MAX_VALUE, Integer.MIN_VALUE}) {
            refused("numbers(2, 0, " + n + ")", x -> x.numbers(2, 0, n), -3);
            refused("numbers(0, 0, " + n + ")", x -> x.numbers(0, 0, n), -3);
        }
        refused("write(0, 0, 1)", x -> x.write(0, 0, 1), -6);
        refused("write(1, 0, 1)", x -> x.write(1, 0, 1), -7);
        refused("write(2, 3, 1)", x -> x.write(2, 3, 1), -7);
        refused("write(2, -1, 1)", x -> x.write(2, -1, 1), -7);
        refused("write(3, 40, 1)", x -> x.write(3, 40, 1), -7);
        refused("lists(2, 6, 1)", x -> x.lists(2, 6, 1), -2);
        refused("lists(2, -1, 1)", x -> x.lists(2, -1, 1), -2);
        refused("lists(0, 0, 1)", x -> x.lists(0, 0, 1), -6);
        refused("lists(2, 0, 256)", x -> x.lists(2, 0, 256), -3);
        refused("lists(2, 4, 1)", x -> x.lists(2, 4, 1), -5);
        for (int i : new int[] {-1, 2, Integer.MAX_VALUE, Integer.MIN_VALUE}) {
            refused("image(" + i + ")", x -> x.image(i), -2);
            refused("restore(" + i + ")", x -> x.restore(i), -2);
        }
        refused("restore(1)", x -> x.restore(1), -5);
        GampLine x = atFirst();
        DOC.due("restore(0) at first", x.restore(0), -5);
        DOC.same("nothing changed", Seen.whole(x), Seen.whole(atFirst()));
    }

    private static void faults() {
        String[] texts = {"line 3;?", "line 3;thing at 0;line", "line 3;wet 11;", "line 3;claims:((((((("};
        for (int i = 0; i < 4; i++) {
            GampLine x = inTheMiddle();
            x.line(0);
            GampLine y = inTheMiddle();
            y.line(0);
            DOC.due("a text with FAULT " + (i + 1), Check.tell(x, texts[i]), -31 - i);
            // The fault is told by fault(), so that of another text is read again.
            x.line(0);
            DOC.same("all stays with a FAULT", Seen.whole(x), Seen.whole(y));
        }
    }

    private static void codesOfMeaning() {
        DOC.says("-2 there is none such;");
        DOC.due("thing(8, 0)", inTheMiddle().thing(8, 0), -2);
        DOC.says("-3 a number can't be;");
        DOC.due("days(100)", inTheMiddle().days(100), -3);
        DOC.says("-4 too many;");
        DOC.due("plans(3)", inTheMiddle().plans(3), -4);
        DOC.says("-5 it can't be now;");
        DOC.due("restore(1)", inTheMiddle().restore(1), -5);
        DOC.says("-6 a TRAY is MISSING;");
        DOC.due("perform(0)", inTheMiddle().perform(0), -6);
        DOC.says("-7 it has no such number;");
        DOC.due("write(2, 3, 0)", inTheMiddle().write(2, 3, 0), -7);
        DOC.says("-11 to -13 why not (1 to 3);");
        DOC.due("leave(6)", inTheMiddle().leave(6), -11);
        DOC.due("leave(5)", inTheMiddle().leave(5), -12);
        DOC.due("fetch(5, 0)", inTheMiddle().fetch(5, 0), -13);
        DOC.says("-30 less the FAULT: a text.");
        GampLine x = atFirst();
        DOC.due("1", Check.tell(x, "?"), -31);
        DOC.due("2", Check.tell(x, ""), -32);
        DOC.due("3", Check.tell(x, "line 1;"), -33);
        DOC.due("4", Check.tell(x, "line 2;claims:((((((("), -34);
    }

    private static void whichGoesFirst() {
        DOC.says("(Of several that which the call tells first; all these ahead of NONE.)");
        refused("fetch: 1 ahead of 2", x -> x.fetch(0, 8), -11);
        refused("fetch: 2 ahead of 3", x -> x.fetch(0, 4), -12);
        refused("swap: 1 ahead of 2", x -> x.swap(4, 6), -11);
        refused("open: 2 ahead of 3", x -> x.open(4), -12);
        refused("judge: -2 ahead of -6", x -> x.judge(0, 4), -2);
        refused("plan: -6 ahead of -7", x -> x.plan(0, 50), -6);
        refused("plan: -4 ahead of -7", x -> x.plan(1, 50), -4);
        refused("plan: -3 ahead of -7", x -> x.plan(2, 50), -3);
        refused("openedBy: -2 ahead of -3", x -> x.openedBy(6, 256, -1), -2);
        refused("openedBy: -3 ahead of NONE", x -> x.openedBy(4, 255, -1), -3);
        refused("openedBy: -3 ahead of NONE, no THINGS", x -> x.openedBy(4, 0, -1), -3);
        refused("opening: -2 ahead of -3", x -> x.opening(6, 256), -2);
        refused("opening: -3 ahead of NONE", x -> x.opening(4, 511), -3);
        refused("inADay: -2 ahead of -3", x -> x.inADay(-1, -1), -2);
        refused("marks: the PERSON ahead of -6", x -> x.marks(0, 6), -2);
        refused("marks: the PERSON ahead of -4", x -> x.marks(1, 6), -2);
        refused("show: the PERSON ahead of -6", x -> x.show(0, 6), -2);
        refused("show: the PERSON ahead of -4", x -> x.show(3, 6), -2);
        refused("game: PEOPLE ahead of the set", x -> x.game(6, 0, -1), FAR_2);
        refused("game: both one ahead of the set", x -> x.game(2, 2, 256), FAR_2);
        refused("picks: PEOPLE ahead of the set", x -> x.picks(6, 0, -1), -2);
        refused("picks: both one ahead of NONE", x -> x.picks(2, 2, 0), -2);
        refused("chance: what ahead of -6", x -> x.chance(0, 0, 2), -2);
        refused("chance: the PERSON ahead of -6", x -> x.chance(0, 6, 0), -2);
        refused("chance: what ahead of -4", x -> x.chance(1, 0, 2), -2);
        refused("bearing: -6 ahead of m", x -> x.bearing(0, 0, 101), -6);
        refused("bearing: -4 ahead of m", x -> x.bearing(1, 0, 101), -4);
        refused("bearing: -2 ahead of m", x -> x.bearing(2, 6, 101), -2);
        refused("numbers: the sort ahead of n", x -> x.numbers(0, 4, 41), -2);
        refused("numbers: the TRAY ahead of n", x -> x.numbers(4, 0, 41), -2);
        refused("write: -2 ahead of -7", x -> x.write(4, 50, 0), -2);
        refused("write: -6 ahead of -7", x -> x.write(0, 50, 0), -6);
        refused("lists: the PERSON ahead of -6", x -> x.lists(0, 6, 1), -2);
        refused("lists: -6 ahead of the set", x -> x.lists(0, 0, 256), -6);
        refused("lists: -6 ahead of -5", x -> x.lists(0, 4, 1), -6);
        refused("lists: the set ahead of -5", x -> x.lists(1, 4, 511), -3);
        GampLine x = inTheMiddle();
        x.numbers(0, 3, 4);
        x.write(0, 3, 99);
        DOC.due("plans: -4 ahead of -3", x.plans(0), -4);
        DOC.due("plan: -4 ahead of -3", x.plan(0, 9), -4);
        x.numbers(0, 3, 17);
        x.write(0, 3, 99);
        DOC.due("marks: -4 ahead of -3", x.marks(0, 0), -4);
        DOC.due("show: -4 ahead of -3", x.show(0, 0), -4);
        x.numbers(0, 3, 11);
        x.write(0, 3, 99);
        DOC.due("chance: -4 ahead of -3", x.chance(0, 0, 0), -4);
        DOC.due("bearing: -4 ahead of -3", x.bearing(0, 0, 0), -4);
        Check.fill(x, 0, 3, 14);
        DOC.due("plan: NONE", x.plan(0, 0), -1);
        DOC.due("plan: -7 ahead of NONE", x.plan(0, 1), -7);
        Check.fill(x, 0, 3, 0, 1);
        DOC.due("show: NONE", x.show(0, 0), -1);
        Check.fill(x, 0, 3, 0, 1, 99);
        DOC.due("show: -3 ahead of NONE", x.show(0, 0), -3);
        DOC.due("trade: NONE", x.trade(4), -1);
        DOC.due("goes: -2 ahead of NONE", x.goes(8, 4), -2);
    }

    private static void farCodes() {
        DOC.says("claims(), game(): -99000002, -99000003.");
        GampLine x = Check.told("line 2;thing at 0;thing at 0;thing at 0;person at 0;person at 0;claims:0-(2-who)-thing;");
        // Claims may well be -2 or -3: they are told apart from the codes.
        DOC.due("claims -2", x.claims(0, 0), -2);
        DOC.due("claims -3", x.claims(0, 1), -3);
        DOC.due("no such", x.claims(0, 3), FAR_2);
        DOC.due("a game of -2", x.game(0, 1, 1), -2);
        DOC.due("a game of -3", x.game(0, 1, 2), -3);
        DOC.due("no such", x.game(0, 2, 1), FAR_2);
        DOC.due("the set", x.game(0, 1, 8), FAR_3);
    }
}
