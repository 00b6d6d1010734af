/** Promises 9 to 19, deeds: a test for each of their sentences. */
public final class DeedPromisesTest {
    private static final Sentences DOC = new Sentences("DeedPromisesTest");
    /** People 0 to 2 hold things 0 to 2; 3 and 4 hold none; things 3 to 5 go to the office by two days. */
    private static final String LINE = "line 4;thing at 0 weight 3;thing at 0 hue 1 weight 4;thing at 0 hue 2;thing at 3 hue 5;"
        + "thing at 3 hue 5;thing at 2 hue 5;person at 0 holds 0;person at 2 mark 1 holds 1 bears 4;"
        + "person at 3 mark 2 holds 2 bears 0;person at 1 mark 5;person at 1 mark 7;";

    public static void main(String[] args) {
        seed();
        leave();
        fetch();
        open();
        swap();
        mark();
        days();
        daysRefused();
        undo();
        undoRefused();
        judgedAsIfDone();
        judgedAndDrawn();
        judgedWhat();
        judgeRefused();
        perform();
        performTillOneCant();
        season();
        seasonOfNone();
        DOC.end();
    }

    private static void due(String call, long got, long want) {
        DOC.due(call, got, want);
    }

    private static void seed() {
        DOC.promise(9);
        DOC.says("x is this: what it was.");
        GampLine x = new GampLine();
        int was = 0;
        for (int n : new int[] {1, -1, Integer.MAX_VALUE, Integer.MIN_VALUE, 0, 0, 77}) {
            due("seed(" + n + ")", x.seed(n), was);
            was = n;
        }
        x.days(1);
        due("x by a DAY", x.seed(0), 1103515245 * 77 + 12345);
        due("it can be UNDONE", x.undo(1), 8);
        due("as it was", x.seed(3), 1103515245 * 77 + 12345);
        due("it isn't a DAY", x.count(6), 1);
        GampLine y = new GampLine();
        y.seed(Integer.MIN_VALUE);
        due("codes aren't meant: -2", y.seed(-2), Integer.MIN_VALUE);
        due("codes aren't meant: -3", y.seed(-3), -2);
        due("x is -3", y.seed(5), -3);
    }

    private static void leave() {
        DOC.promise(10);
        DOC.says("To LEAVE: the THING.");
        GampLine x = Check.told(LINE);
        due("leave(2)", x.leave(2), 2);
        due("on its RACK", x.thing(2, 0), 3);
        due("leave(0)", x.leave(0), 0);
        due("THING 0 is told as 0", x.thing(0, 0), 0);
        due("two calls", x.count(7), 2);
        DOC.says("-11, -12.");
        due("it HOLDS none any more", x.leave(2), -12);
        due("it held none", x.leave(3), -12);
        for (int p : new int[] {-1, 5, 6, Integer.MAX_VALUE, Integer.MIN_VALUE}) {
            due("leave(" + p + ")", x.leave(p), -11);
        }
        due("no call more", x.count(7), 2);
    }

    private static void fetch() {
        DOC.promise(11);
        DOC.says("To FETCH: how many are in the OFFICE then.");
        GampLine x = Check.told(LINE);
        x.days(2);
        due("three in the OFFICE", x.count(3), 56);
        due("fetch(3, 4)", x.fetch(3, 4), 2);
        due("it HOLDS it", x.person(3, 3), 4);
        x.mark(4, 5);
        due("fetch(4, 3)", x.fetch(4, 3), 1);
        x.leave(2);
        x.mark(2, 5);
        due("fetch(2, 5)", x.fetch(2, 5), 0);
        due("none in the OFFICE", x.count(3), 0);
        DOC.says("-11 to -13.");
        x.undo(1);
        for (int p : new int[] {-1, 5, Integer.MAX_VALUE, Integer.MIN_VALUE}) {
            due("fetch(" + p + ", 5)", x.fetch(p, 5), -11);
        }
        for (int t : new int[] {-1, 6, Integer.MAX_VALUE, Integer.MIN_VALUE}) {
            due("fetch(2, " + t + ")", x.fetch(2, t), -11);
        }
        due("it HOLDS one", x.fetch(0, 5), -12);
        due("not in the OFFICE", x.fetch(2, 2), -13);
        x.mark(2, 6);
        due("not CLAIMED", x.fetch(2, 5), -13);
    }

    private static void open() {
        DOC.promise(12);
        DOC.says("To OPEN: what it has BORNE then.");
        GampLine x = Check.told(LINE);
        due("3", x.open(0), 3);
        due("6", x.open(0), 6);
        due("9 of 10", x.open(0), 9);
        due("4 of 4", x.open(1), 4);
        due("0 of 0", x.open(2), 0);
        due("how often", x.thing(0, 3), 3);
        DOC.says("-11 to -13.");
        due("12 of 10", x.open(0), -13);
        due("8 of 4", x.open(1), -13);
        due("it HOLDS none", x.open(3), -12);
        for (int p : new int[] {-1, 5, Integer.MAX_VALUE, Integer.MIN_VALUE}) {
            due("open(" + p + ")", x.open(p), -11);
        }
        due("no more BORNE", x.person(0, 4), 9);
        due("no more OPENED", x.thing(0, 3), 3);
    }

    private static void swap() {
        DOC.promise(13);
        DOC.says("To SWAP: the THING the first one HOLDS then.");
        GampLine x = Check.told(LINE);
        due("swap(0, 2)", x.swap(0, 2), 2);
        due("swap(0, 1)", x.swap(0, 1), 1);
        due("swap(2, 0)", x.swap(2, 0), 1);
        due("0", x.person(0, 3), 0);
        due("1", x.person(1, 3), 2);
        due("2", x.person(2, 3), 1);
        DOC.says("-11, -12.");
        due("both one", x.swap(1, 1), -11);
        for (int p : new int[] {-1, 5, Integer.MAX_VALUE, Integer.MIN_VALUE}) {
            due("swap(" + p + ", 0)", x.swap(p, 0), -11);
            due("swap(0, " + p + ")", x.swap(0, p), -11);
            due("both are none such", x.swap(p, p), -11);
        }
        due("the second HOLDS none", x.swap(0, 3), -12);
        due("the first HOLDS none", x.swap(3, 0), -12);
        due("both HOLD none", x.swap(3, 4), -12);
        due("three calls", x.count(7), 3);
    }

    private static void mark() {
        DOC.promise(14);
        DOC.says("To have a MARK (0 to 9): what it was.");
        GampLine x = Check.told(LINE);
        due("mark(4, 0)", x.mark(4, 0), 7);
        due("mark(4, 9)", x.mark(4, 9), 0);
        due("mark(4, 9) again", x.mark(4, 9), 9);
        due("it has it", x.person(4, 1), 9);
        due("three calls", x.count(7), 3);
        DOC.says("-11.");
        for (int n : new int[] {-1, 10, Integer.MAX_VALUE, Integer.MIN_VALUE}) {
            due("mark(4, " + n + ")", x.mark(4, n), -11);
            due("mark(" + (n == 10 ? 5 : n) + ", 4)", x.mark(n == 10 ? 5 : n, 4), -11);
        }
        due("it has it still", x.person(4, 1), 9);
        due("no call more", x.count(7), 3);
    }

    private static void days() {
        DOC.promise(15);
        DOC.says("n DAYS (1 to 99): how many THINGS were taken in these.");
        String line = "line 8;" + "thing at 0;".repeat(8) + "person at 1;person at 1;person at 2;person at 3;person at 7;"
            + "person at 0;";
        int[] taken = {2, 3, 4, 4, 4, 4, 5, 5, 5};
        for (int n = 1; n <= 9; n++) {
            GampLine x = Check.told(line);
            due("days(" + n + ")", x.days(n), taken[n - 1]);
            due("DAY", x.count(6), n);
            due("HELD", Integer.bitCount(x.count(4)), taken[n - 1]);
            due("one call", x.count(7), 1);
            due("a DAY more", x.days(1), n < 9 ? taken[n] - taken[n - 1] : 0);
        }
        GampLine x = Check.told(line);
        due("99 DAYS", x.days(99), 5);
        due("DAY 99", x.count(6), 99);
        x.leave(0);
        due("those who HOLD one take none", x.days(1), 0);
        x = Check.told("line 3;thing at 0;person at 1;person at 2;");
        x.days(1);
        x.leave(0);
        due("one that was taken is taken again", x.days(1), 1);
        x = Check.told("line 2;thing at 0;person at 1;person at 0;");
        x.days(1);
        x.swap(0, 1);
        x.leave(0);
        due("none is taken from the last STATION", x.days(2), 0);
    }

    private static void daysRefused() {
        DOC.says("-3.");
        GampLine x = Check.told(LINE);
        for (int n : new int[] {0, -1, 100, Integer.MAX_VALUE, Integer.MIN_VALUE}) {
            due("days(" + n + ")", x.days(n), -3);
            due("DAY", x.count(6), 0);
            due("no call", x.count(7), 0);
        }
    }

    private static void undo() {
        DOC.promise(16);
        DOC.says("n calls (1 to 10) are UNDONE: how many still can be.");
        for (int n = 1; n <= 10; n++) {
            GampLine x = Check.told(LINE);
            for (int i = 1; i <= 14; i++) {
                x.mark(4, i % 10);
            }
            due("undo(" + n + ")", x.undo(n), 10 - n);
            due("count(7)", x.count(7), 10 - n);
            due("the MARK then", x.person(4, 1), (14 - n) % 10);
        }
        GampLine x = Check.told(LINE);
        x.days(1);
        due("undo(1)", x.undo(1), 0);
        due("DAY", x.count(6), 0);
    }

    private static void undoRefused() {
        DOC.says("-3: n, more than can be.");
        GampLine x = Check.told(LINE);
        due("none can be", x.undo(1), -3);
        for (int i = 1; i <= 12; i++) {
            x.mark(4, i % 10);
            for (int n : new int[] {0, -1, 11, Math.min(i, 10) + 1, Integer.MAX_VALUE, Integer.MIN_VALUE}) {
                due("undo(" + n + ") of " + i, x.undo(n), -3);
            }
            due("the MARK stays", x.person(4, 1), i % 10);
            due("so many still can be", x.count(7), Math.min(i, 10));
        }
    }

    private static void judgedAsIfDone() {
        DOC.promise(17);
        DOC.says("DEEDS, judged as if done");
        GampLine x = Check.told(LINE);
        // 1 can leave only once; 0 opens three times; what is left ahead can be swapped no more.
        Check.fill(x, 0, 1, 10, 10, 10, 10);
        due("the fourth can't be borne", x.judge(0, 0), 3);
        Check.fill(x, 0, 1, 201, 0, 210);
        due("who left one HOLDS none", x.judge(0, 0), 2);
        due("why", x.judge(0, 1), 2);
        Check.fill(x, 0, 1, 315, -1, 1, -1, -1, 113, 201);
        due("fetched by the MARK it has then", x.judge(0, 0), -1);
        Check.fill(x, 0, 1, 316, -1, 1, -1, -1, 113);
        due("not by another one", x.judge(0, 0), 5);
        due("why", x.judge(0, 1), 3);
        GampLine y = Check.told(LINE);
        Check.fill(y, 0, 1, 316, -1, 1, -1, -1, 113);
        DOC.same("nothing is done", Seen.whole(x), Seen.whole(y));
    }

    private static void judgedAndDrawn() {
        DOC.says("(and DRAWN),");
        for (int i = 0; i < 20; i++) {
            GampLine x = Check.told("line 2;thing at 0 weight 2;person at 0 bears 5 holds 0;wet 5;opens:weight+wet*9;");
            x.seed(i * 99991);
            Check.fill(x, 0, 1, -1, 10, -1, 10, -1, 10, -1, 10);
            int dry = 0;
            int then = i * 99991;
            for (int day = 0; day < 4 && dry == day; day++) {
                then = 1103515245 * then + 12345;
                dry += (then >>> 16) % 10 < 5 ? 0 : 1;
            }
            due("till it is WET", x.judge(0, 0), dry == 4 ? -1 : 2 * dry + 1);
            due("why", x.judge(0, 1), dry == 4 ? 0 : 3);
            due("x stays", x.seed(0), i * 99991);
            x.undo(1);
            due("done, it is the same", x.perform(0), dry == 4 ? 8 : 2 * dry + 1);
        }
    }

    private static void judgedWhat() {
        DOC.says("what 0: the first place that can't be (NONE), 1: why (0), 2: who HOLDS one then, as bits,"
            + " 3: how many are in the OFFICE then.");
        GampLine x = Check.told(LINE);
        long[][] deeds = {{}, {0}, {0, 2}, {-1}, {-1, -1}, {-1, -1, 133}, {3}, {5}, {0, 0}, {0, 1, 2, 10}, {-1, -1, 134, 135},
            {99}, {0, 99, 1}};
        int[][] want = {{-1, 0, 7, 0}, {-1, 0, 6, 0}, {-1, 0, 2, 0}, {-1, 0, 7, 2}, {-1, 0, 7, 3}, {-1, 0, 15, 2}, {0, 2, 7, 0},
            {0, 1, 7, 0}, {1, 2, 6, 0}, {3, 2, 0, 0}, {3, 2, 15, 2}, {0, 1, 7, 0}, {1, 1, 6, 0}};
        for (int i = 0; i < deeds.length; i++) {
            Check.fill(x, 0, 1, deeds[i]);
            for (int what = 0; what < 4; what++) {
                due("judge(0, " + what + ") of deeds " + i, x.judge(0, what), want[i][what]);
            }
        }
        Check.fill(x, 0, 1, 99);
        Check.fill(x, 1, 1);
        due("one that can't be", x.judge(0, 1), 1);
        due("none that can't be, behind it", x.judge(1, 1), 0);
        due("its place", x.judge(1, 0), -1);
        long[] forty = new long[40];
        java.util.Arrays.fill(forty, -1);
        forty[39] = 3;
        Check.fill(x, 0, 0, forty);
        due("the last place", x.judge(0, 0), 39);
        forty[39] = -1;
        Check.fill(x, 0, 0, forty);
        due("forty can be", x.judge(0, 0), -1);
    }

    private static void judgeRefused() {
        DOC.says("-2: the TRAY, what; -6.");
        GampLine x = Check.told(LINE);
        x.numbers(1, 0, 0);
        for (int n : new int[] {-1, 4, Integer.MAX_VALUE, Integer.MIN_VALUE}) {
            due("judge(" + n + ", 0)", x.judge(n, 0), -2);
            due("judge(1, " + n + ")", x.judge(1, n), -2);
        }
        for (int what = 0; what < 4; what++) {
            due("judge(0, " + what + ")", x.judge(0, what), -6);
        }
        due("of no numbers: all can be", x.judge(1, 0), -1);
        due("of no numbers: why", x.judge(1, 1), 0);
    }

    private static void perform() {
        DOC.promise(18);
        DOC.says("They are done,");
        GampLine x = Check.told(LINE);
        Check.fill(x, 0, 1, 10, 201, -1, 11, 344, 2, -1);
        GampLine y = Check.told(LINE);
        Check.fill(y, 0, 1, 10, 201, -1, 11, 344, 2, -1);
        due("all seven", x.perform(0), 7);
        due("OPENED by 0", y.open(0), 3);
        due("SWAPPED", y.swap(0, 1), 1);
        y.days(1);
        due("OPENED by 1", y.open(1), 3);
        y.mark(4, 4);
        y.leave(2);
        y.days(1);
        due("one call", x.count(7), 1);
        x.image(0);
        x.restore(0);
        y.image(0);
        y.restore(0);
        DOC.same("as by single calls", Seen.whole(x), Seen.whole(y));
    }

    private static void performTillOneCant() {
        DOC.says("till one can't be: how many.");
        GampLine x = Check.told(LINE);
        Check.fill(x, 0, 1, 0, 1, 1, 2);
        due("two", x.perform(0), 2);
        due("2 isn't done", x.person(2, 3), 2);
        due("they can be UNDONE as a whole", x.undo(1), 0);
        due("as it was", x.count(4), 7);
        Check.fill(x, 0, 1, 5, 0);
        due("none", x.perform(0), 0);
        due("no call", x.count(7), 0);
        Check.fill(x, 0, 1);
        due("of no numbers", x.perform(0), 0);
        due("no call", x.count(7), 0);
        long[] forty = new long[40];
        java.util.Arrays.fill(forty, -1);
        Check.fill(x, 0, 0, forty);
        due("forty", x.perform(0), 40);
        due("DAY", x.count(6), 40);
        DOC.says("-2; -6.");
        for (int n : new int[] {-1, 4, Integer.MAX_VALUE, Integer.MIN_VALUE}) {
            due("perform(" + n + ")", x.perform(n), -2);
        }
        for (int tray = 1; tray < 4; tray++) {
            due("perform(" + tray + ")", x.perform(tray), -6);
        }
    }

    private static void season() {
        DOC.promise(19);
        DOC.says("A SEASON: how many could be");
        GampLine x = new GampLine();
        int done = 0;
        int then = 8;
        for (int i = 0; i < 40; i++) {
            then = 1103515245 * then + 12345;
            int kind = (then >>> 16) % 6;
            for (int more = 0; more < (kind < 4 ? 1 : 2); more++) {
                then = 1103515245 * then + 12345;
            }
            done += kind < 2 ? 1 : 0;
        }
        due("without PEOPLE: DAYS", x.season(8, 40), done);
        due("DAY", x.count(6), done);
        due("one call", x.count(7), 1);
        due("x", x.seed(0), then);
        x.undo(2);
        due("UNDONE", x.count(6), 0);
        due("x again", x.seed(0), 0);
        DOC.says("-3: how many times.");
        for (int n : new int[] {0, -1, 41, Integer.MAX_VALUE, Integer.MIN_VALUE}) {
            due("season(8, " + n + ")", x.season(8, n), -3);
        }
        due("nothing is done", x.count(6), 0);
    }

    private static void seasonOfNone() {
        DOC.says("(0: nothing changes, x neither).");
        int none = 0;
        for (int seed = 0; seed < 40; seed++) {
            GampLine x = new GampLine();
            x.seed(4711);
            boolean isDay = (1103515245 * seed + 12345 >>> 16) % 6 < 2;
            due("season(" + seed + ", 1)", x.season(seed, 1), isDay ? 1 : 0);
            due("a call", x.count(7), isDay ? 2 : 1);
            due("DAY", x.count(6), isDay ? 1 : 0);
            if (!isDay) {
                none++;
                due("x", x.seed(0), 4711);
            }
        }
        due("such seeds there are", none > 0 ? 1 : 0, 1);
    }
}
