/** Promises 33 to 41, opening, by what was claimed, choosing, chances: a test for each of their sentences. */
public final class OpeningPromisesTest {
    private static final Sentences DOC = new Sentences("OpeningPromisesTest");
    private static final int[] NO_SETS = {-1, 256, 257, 1 << 20, Integer.MAX_VALUE, Integer.MIN_VALUE};

    public static void main(String[] args) {
        opening();
        openingRefused();
        openedBy();
        openedByRefused();
        inADay();
        inADayRefused();
        marks();
        marksRefused();
        show();
        showRefused();
        game();
        gameRefused();
        picks();
        picksRefused();
        chance();
        chanceRefused();
        bearing();
        bearingRefused();
        DOC.end();
    }

    private static void due(String call, long got, long want) {
        DOC.due(call, got, want);
    }

    private static void opening() {
        DOC.promise(33);
        DOC.says("OPENING: the fewest DAYS.");
        GampLine x = Lines.opener("", 12, 9, 8, 7, 6, 5, 4, 3, 2);
        // 44 in all: by 12 a day at least 4, and 9 + 3, 8 + 4, 7 + 5, 6 + 2 are four.
        due("all of them", x.opening(0, 255), 4);
        int[] sets = {0, 1, 2, 3, 65, 128, 129, 131, 240, 248};
        int[] days = {0, 1, 1, 2, 1, 1, 1, 2, 2, 2};
        for (int i = 0; i < sets.length; i++) {
            due("opening(0, " + sets[i] + ")", x.opening(0, sets[i]), days[i]);
        }
        due("one a DAY, of 1", Lines.opener("", 1, 1, 1, 1).opening(0, 7), 3);
        due("one a DAY, of 2", Lines.opener("", 2, 2, 2, 2).opening(0, 7), 3);
        x = Check.told("line 2;thing at 0;thing at 0;person at 0;person at 0;person at 0;opens:who*5;");
        due("by who it is: 0", x.opening(0, 3), 1);
        due("by who it is: 1", x.opening(1, 3), 1);
        due("by who it is: 2", x.opening(2, 3), 2);
        due("99 a DAY", Lines.opener("opens:33;", 99, 0, 0, 0, 0, 0, 0, 0).opening(0, 127), 3);
        due("99 at once", Lines.opener("opens:99;", 99, 0, 0).opening(0, 3), 2);
        due("what was BORNE makes it lighter", Lines.opener("opens:9-borne;", 9, 0, 0, 0, 0).opening(0, 15), 1);
        due("what was BORNE makes it heavier", Lines.opener("opens:borne+1;", 7, 0, 0, 0, 0, 0).opening(0, 31), 2);
        due("a light one first makes all others light",
            Lines.opener("opens:if thing=3 then 1 else if borne>0 then 2 else 9 end end;", 9, 0, 0, 0, 0).opening(0, 15), 1);
    }

    private static void openingRefused() {
        DOC.says("NONE: it can't; -2; -3: the set has others than THINGS.");
        GampLine x = Lines.opener("", 5, 5, 6);
        due("it can", x.opening(0, 1), 1);
        due("it can't", x.opening(0, 2), -1);
        due("one of two it can't", x.opening(0, 3), -1);
        due("it bears 0", Lines.opener("", 0, 1).opening(0, 1), -1);
        for (int p : new int[] {-1, 1, 6, Integer.MAX_VALUE, Integer.MIN_VALUE}) {
            due("opening(" + p + ", 1)", x.opening(p, 1), -2);
            due("opening(" + p + ", 0)", x.opening(p, 0), -2);
        }
        for (int set : NO_SETS) {
            due("opening(0, " + set + ")", x.opening(0, set), -3);
        }
        due("THINGS 0 and 1 alone", x.opening(0, 4), -3);
        due("THINGS 0 and 1 alone", x.opening(0, 7), -3);
        due("all eight", Lines.opener("opens:0;", 0, 0, 0, 0, 0, 0, 0, 0, 0).opening(0, 255), 1);
        due("a ninth", Lines.opener("opens:0;", 0, 0, 0, 0, 0, 0, 0, 0, 0).opening(0, 256), -3);
        due("no THINGS at all", Check.told("line 2;person at 0;").opening(0, 0), 0);
        due("no THINGS at all", Check.told("line 2;person at 0;").opening(0, 1), -3);
    }

    private static void order(GampLine x, int set, int... want) {
        for (int i = 0; i < want.length; i++) {
            due("openedBy(0, " + set + ", " + i + ")", x.openedBy(0, set, i), want[i]);
        }
        due("none behind them", x.openedBy(0, set, want.length), -1);
    }

    private static void openedBy() {
        DOC.promise(34);
        DOC.says("The i-th THING it opens so.");
        // 9 alone, 8 + 4, 7 + 5, 6 + 3 + 2.
        order(Lines.opener("", 12, 9, 8, 7, 6, 5, 4, 3, 2), 255, 0, 1, 5, 2, 4, 3, 6, 7);
        order(Lines.opener("", 9, 5, 5, 4, 4), 15, 0, 2, 1, 3);
        order(Lines.opener("", 9, 5, 5, 4, 4), 14, 1, 2, 3);
        order(Lines.opener("", 9, 5, 5, 4, 4), 8, 3);
        order(Lines.opener("", 99, 9, 9, 9, 9, 9, 9, 9, 9), 255, 0, 1, 2, 3, 4, 5, 6, 7);
        order(Lines.opener("opens:if thing=3 then 1 else if borne>0 then 2 else 9 end end;", 9, 0, 0, 0, 0), 15, 3, 0, 1, 2);
        order(Lines.opener("opens:if borne=0 then 9-thing else 9 end;", 9, 0, 0, 0, 0), 15, 0, 1, 2, 3);
        // 1 must stand behind 2 alone, 0 behind both.
        GampLine x = Lines.opener("opens:if thing=2 then 1 else if borne+thing=2 then thing else 99 end end;", 9, 0, 0, 0);
        order(x, 4, 2);
        order(x, 6, 2, 1);
        order(x, 7, 2, 1, 0);
        x = Lines.opener("opens:if borne>0 then 99-weight else 1 end;", 99, 1, 9, 9);
        order(x, 6, 1, 2);
        order(x, 7, 0, 1, 2);
        x = Lines.opener("opens:if thing=0 and borne<4 then 99 else 2 end;", 9, 0, 0, 0, 0, 0);
        order(x, 30, 1, 2, 3, 4);
        order(x, 7, 1, 2, 0);
        // By its mark, by who it is.
        x = Check.told("line 2;thing at 0 weight 1;thing at 0 weight 8;thing at 0 weight 9;person at 0;person at 0 bears 9;"
            + "opens:weight+mark;");
        order(x, 7, 0, 1, 2);
        x.mark(0, 1);
        // 2, 9, 10: none two on one day.
        order(x, 7, 0, 1, 2);
        due("DAYS", x.opening(0, 7), 3);
        due("who bears 9", x.openedBy(1, 7, 1), 1);
    }

    private static void openedByRefused() {
        DOC.says("NONE: not so many, it can't; -2; -3: the set, i is below 0.");
        GampLine x = Lines.opener("", 5, 5, 6);
        for (int i : new int[] {1, 2, 8, Integer.MAX_VALUE}) {
            due("not so many: openedBy(0, 1, " + i + ")", x.openedBy(0, 1, i), -1);
        }
        due("of none", x.openedBy(0, 0, 0), -1);
        for (int i = 0; i < 3; i++) {
            due("it can't: " + i, x.openedBy(0, 3, i), -1);
        }
        for (int p : new int[] {-1, 1, 6, Integer.MAX_VALUE, Integer.MIN_VALUE}) {
            due("openedBy(" + p + ", 1, 0)", x.openedBy(p, 1, 0), -2);
        }
        for (int set : NO_SETS) {
            due("openedBy(0, " + set + ", 0)", x.openedBy(0, set, 0), -3);
        }
        due("openedBy(0, 4, 0)", x.openedBy(0, 4, 0), -3);
        for (int i : new int[] {-1, -2, Integer.MIN_VALUE}) {
            due("openedBy(0, 1, " + i + ")", x.openedBy(0, 1, i), -3);
            due("of none", x.openedBy(0, 0, i), -3);
            due("though it can't", x.openedBy(0, 2, i), -3);
        }
    }

    private static void inADay() {
        DOC.promise(35);
        DOC.says("The most THINGS of a set that it can open on one dry DAY, the least set of like ones, as bits.");
        GampLine x = Lines.opener("wet 10;opens:weight+wet*50;", 10, 4, 3, 3, 5, 9, 1);
        due("the least set: 0 1 2, not 1 2 5", x.inADay(0, 63), 7);
        due("without 0: 1 2 5", x.inADay(0, 62), 2 + 4 + 32);
        due("without 5", x.inADay(0, 31), 7);
        due("of two", x.inADay(0, 24), 8);
        due("of one", x.inADay(0, 16), 16);
        due("of none", x.inADay(0, 0), 0);
        x.days(1);
        due("dry, though it is WET", x.inADay(0, 31), 7);
        due("it bears none", Lines.opener("", 0, 1, 2).inADay(0, 3), 0);
        due("but those of 0", Lines.opener("", 0, 1, 0).inADay(0, 3), 2);
        due("all of them", Lines.opener("", 99, 9, 9, 9, 9, 9, 9, 9, 9).inADay(0, 255), 255);
        due("the least of like ones", Lines.opener("", 4, 4, 4, 4, 4, 4, 4, 4, 4).inADay(0, 254), 2);
        due("in an order that can be", Lines.opener("opens:if borne>0 then 9 else thing end;", 9, 0, 0, 0).inADay(0, 7), 3);
        x = Check.told("line 2;thing at 0 weight 6;person at 0 bears 6 holds 0;");
        x.open(0);
        due("whatever it has BORNE now", x.inADay(0, 1), 1);
    }

    private static void inADayRefused() {
        DOC.says("-2; -3: the set.");
        GampLine x = Lines.opener("", 5, 5, 6);
        for (int p : new int[] {-1, 1, 6, Integer.MAX_VALUE, Integer.MIN_VALUE}) {
            due("inADay(" + p + ", 1)", x.inADay(p, 1), -2);
        }
        for (int set : NO_SETS) {
            due("inADay(0, " + set + ")", x.inADay(0, set), -3);
        }
        due("inADay(0, 4)", x.inADay(0, 4), -3);
        due("inADay(0, 5)", x.inADay(0, 5), -3);
    }

    private static void marks() {
        DOC.promise(36);
        DOC.says("ANSWERS: MARKS, as bits.");
        GampLine x = Check.told("line 2;" + "thing at 0;".repeat(8) + "person at 0 mark 2;person at 0 mark 9;claims:mark-thing-who;");
        for (int t = 0; t < 8; t++) {
            for (int p = 0; p < 2; p++) {
                int above = 1023 & ~((1 << t + p + 1) - 1);
                Check.fill(x, 0, 0, 2 * t + 1);
                due("it CLAIMED " + t, x.marks(0, p), above);
                Check.fill(x, 0, 0, 2 * t);
                due("it didn't CLAIM " + t, x.marks(0, p), 1023 - above);
            }
        }
        Check.fill(x, 0, 0, 3, 8);
        due("between two", x.marks(0, 0), 0b11100);
        Check.fill(x, 0, 0, 0, 15);
        due("none", x.marks(0, 0), 0);
        due("its own MARK stays", x.person(0, 1), 2);
    }

    private static void marksRefused() {
        DOC.says("-2: the TRAY, the PERSON; -6; -4: not 1 to 16 numbers; -3: one is none such.");
        GampLine x = Check.told("line 2;thing at 0;thing at 0;person at 0;");
        refusedAnswers(x, false);
    }

    private static long answer(GampLine x, boolean show, int tray, int p) {
        return show ? x.show(tray, p) : x.marks(tray, p);
    }

    private static void refusedAnswers(GampLine x, boolean show) {
        x.numbers(1, 3, 1);
        for (int n : new int[] {-1, 4, Integer.MAX_VALUE, Integer.MIN_VALUE}) {
            due("TRAY " + n, answer(x, show, n, 0), -2);
            due("PERSON " + n, answer(x, show, 1, n), -2);
        }
        due("PERSON 1", answer(x, show, 1, 1), -2);
        due("MISSING", answer(x, show, 0, 0), -6);
        for (int n = 0; n <= 40; n++) {
            x.numbers(1, 3, n);
            due(n + " numbers", answer(x, show, 1, 0) == -4 ? 1 : 0, n < 1 || n > 16 ? 1 : 0);
        }
        for (long v : new long[] {-1, 4, 5, 16, 255, 1L << 32, Long.MAX_VALUE, Long.MIN_VALUE, (1L << 63) + 1}) {
            Check.fill(x, 1, 3, v);
            due("none such: " + v, answer(x, show, 1, 0), -3);
            Check.fill(x, 1, 3, 0, 0, 0, 0, 0, 0, 0, 0, 0, 0, 0, 0, 0, 0, 0, v);
            due("the sixteenth is none such: " + v, answer(x, show, 1, 0), -3);
        }
        Check.fill(x, 1, 3, 3);
        due("the greatest there is", answer(x, show, 1, 0) >= 0 ? 1 : 0, 1);
    }

    private static void show() {
        DOC.promise(37);
        DOC.says("The THING to show it next: the lesser number of these MARKS by which it would CLAIM it, or wouldn't, is greatest, the first.");
        GampLine x = Check.told("line 2;thing at 0 weight 1;thing at 0 weight 3;thing at 0 weight 5;thing at 0 weight 4;"
            + "thing at 0 weight 9;person at 0;claims:mark-weight;");
        // By 0 on all marks: would by 8, 6, 4, 5, 0 of ten.
        Check.fill(x, 0, 0, 8);
        due("all ten MARKS", x.marks(0, 0), 1023);
        due("5 and 5", x.show(0, 0), 3);
        Check.fill(x, 0, 0, 5);
        // Marks 6 to 9: all or none by each.
        due("MARKS 6 to 9", x.marks(0, 0), 0b1111000000);
        due("nothing tells them apart: the first", x.show(0, 0), 0);
        Check.fill(x, 0, 0, 4);
        // Marks 0 to 5: would by 4, 2, 0, 1, 0 of six.
        due("MARKS 0 to 5", x.marks(0, 0), 63);
        due("2 and 4 is as good as 4 and 2: the first", x.show(0, 0), 0);
        Check.fill(x, 0, 0, 3, 6);
        // Marks 4 alone.
        due("MARK 4 alone", x.marks(0, 0), 16);
        due("the first", x.show(0, 0), 0);
        x = Check.told("line 2;thing at 0;thing at 0 hue 1;thing at 0;person at 0;claims:if hue=1 then mark*mark-1 else 0-mark end;");
        Check.fill(x, 0, 0, 0);
        due("0 isn't CLAIMED: by eight of ten", x.show(0, 0), 1);
        x = Check.told("line 2;thing at 0;thing at 0;person at 0;claims:if thing=0 then mark else 0 end;");
        Check.fill(x, 0, 0, 2);
        due("wouldn't by MARK 0 alone", x.show(0, 0), 0);
        x = Check.told("line 2;thing at 0 hue 9;thing at 0;person at 0;");
        Check.fill(x, 0, 0, 2);
        // Marks 1 to 9: thing 0 by mark 9, thing 1 by none.
        due("the last MARK counts", x.show(0, 0), 0);
        Check.fill(x, 0, 0, 0);
        due("the first MARK counts", x.show(0, 0), 1);
    }

    private static void showRefused() {
        DOC.says("NONE: there are no THINGS, no MARKS; as marks().");
        GampLine x = Check.told("line 2;thing at 0;thing at 0;person at 0;");
        Check.fill(x, 0, 0, 0, 1);
        due("no MARKS", x.show(0, 0), -1);
        due("as marks() tells", x.marks(0, 0), 0);
        x = Check.told("line 2;thing at 0;thing at 0;person at 0;");
        refusedAnswers(x, true);
        x = Check.told("line 2;person at 0;");
        Check.fill(x, 0, 0, 0);
        due("no THINGS: a number is none such", x.show(0, 0), -3);
    }

    private static GampLine choosers(String law, int... weights) {
        StringBuilder s = new StringBuilder("line 2;");
        for (int w : weights) {
            s.append("thing at 0 weight ").append(w).append(';');
        }
        return Check.told(s + "person at 0;person at 0 mark 1;person at 0 mark 2;claims:" + law + ";");
    }

    private static void game() {
        DOC.promise(38);
        DOC.says("CHOOSING of a set, p the first one: what it comes to.");
        GampLine x = choosers("weight", 1, 2, 3, 4, 5, 6, 7, 8);
        due("8 - 7 + 6 - 5 + 4 - 3 + 2 - 1", x.game(0, 1, 255), 4);
        due("seven of them", x.game(0, 1, 127), 4);
        due("six of them", x.game(2, 1, 63), 3);
        due("one", x.game(0, 1, 16), 5);
        due("none", x.game(0, 1, 0), 0);
        x = choosers("if who=0 then weight else 9-weight end", 1, 9, 4);
        // 0: 1 9 4; 1: 8 0 5.
        due("0 first", x.game(0, 1, 7), 9 - 8 + 4);
        due("1 first", x.game(1, 0, 7), 8 - 9 + 5);
        x = choosers("0-weight", 3, 5);
        due("both below 0", x.game(0, 1, 3), -3 + 5);
        due("one below 0", x.game(0, 1, 2), -5);
        x = choosers("weight*mark", 3, 5);
        x.mark(0, 4);
        due("by MARKS as now", x.game(0, 1, 3), 20 - 3);
        due("nothing is done", x.count(4), 0);
    }

    private static void gameRefused() {
        DOC.says("-99000002: PEOPLE, both one; -99000003: the set has others than THINGS.");
        GampLine x = choosers("weight", 1, 2);
        for (int p : new int[] {-1, 3, 6, Integer.MAX_VALUE, Integer.MIN_VALUE}) {
            due("game(" + p + ", 0, 1)", x.game(p, 0, 1), -99000002);
            due("game(0, " + p + ", 1)", x.game(0, p, 1), -99000002);
        }
        for (int p = 0; p < 3; p++) {
            due("both one", x.game(p, p, 1), -99000002);
        }
        for (int set : NO_SETS) {
            due("game(0, 1, " + set + ")", x.game(0, 1, set), -99000003);
        }
        due("game(0, 1, 4)", x.game(0, 1, 4), -99000003);
        due("game(0, 1, 7)", x.game(0, 1, 7), -99000003);
    }

    private static void picks() {
        DOC.promise(39);
        DOC.says("The first THING by which p, taking it, still comes to that.");
        GampLine x = choosers("weight", 1, 2, 3, 4, 5, 6, 7, 8);
        due("the greatest", x.picks(0, 1, 255), 7);
        due("of some", x.picks(0, 1, 7), 2);
        x = choosers("weight", 5, 5, 5);
        due("the first of like ones", x.picks(0, 1, 7), 0);
        due("the first of those there are", x.picks(0, 1, 6), 1);
        x = choosers("if who=0 then weight else 9*thing end", 6, 5);
        due("what the other one would take", x.picks(0, 1, 3), 1);
        x = choosers("if who=0 then if thing=2 then 0 else 4 end else if thing=2 then 4 else 0 end end", 0, 0, 0);
        // Taking 0 comes to 4 - 4 + 4, taking 2 to 0 - 0 + 4.
        due("of several the first", x.picks(0, 1, 7), 0);
        for (int set = 1; set < 256; set++) {
            GampLine y = choosers("(weight-4)*(who*2-3)+thing*who", 1, 9, 4, 0, 7, 3, 8, 2);
            int pick = y.picks(2, 0, set);
            due("one of the set", set >> Math.max(pick, 0) & 1, 1);
            // What p then has, less what the other one comes to as the first one.
            due("it comes to that: " + set, y.claims(2, pick) - y.game(0, 2, set ^ 1 << pick), y.game(2, 0, set));
            for (int t = 0; t < pick; t++) {
                if ((set >> t & 1) == 1) {
                    due("none ahead of it: " + t, y.claims(2, t) - y.game(0, 2, set ^ 1 << t) < y.game(2, 0, set) ? 1 : 0, 1);
                }
            }
        }
    }

    private static void picksRefused() {
        DOC.says("NONE: the set is empty; -2, -3 likewise.");
        GampLine x = choosers("weight", 1, 2);
        due("empty", x.picks(0, 1, 0), -1);
        for (int p : new int[] {-1, 3, 6, Integer.MAX_VALUE, Integer.MIN_VALUE}) {
            due("picks(" + p + ", 0, 1)", x.picks(p, 0, 1), -2);
            due("picks(0, " + p + ", 1)", x.picks(0, p, 1), -2);
            due("picks(0, " + p + ", 0)", x.picks(0, p, 0), -2);
        }
        due("both one", x.picks(1, 1, 1), -2);
        for (int set : NO_SETS) {
            due("picks(0, 1, " + set + ")", x.picks(0, 1, set), -3);
        }
        due("picks(0, 1, 4)", x.picks(0, 1, 4), -3);
    }

    private static void chance() {
        DOC.promise(40);
        DOC.says("CHANCE, what 0: the number above, 1: below.");
        GampLine x = Check.told("line 2;thing at 0 weight 2;thing at 0 weight 3;person at 0 bears 6;person at 0 bears 4;opens:weight+wet;wet 4;");
        Check.fill(x, 0, 0, 0, 1);
        // 5 by 36, 6 by 48, 7 by 16 of 100.
        due("above", x.chance(0, 0, 0), 21);
        due("below", x.chance(0, 0, 1), 25);
        due("never: above", x.chance(0, 1, 0), 0);
        due("never: below", x.chance(0, 1, 1), 1);
        Check.fill(x, 0, 0, 0);
        due("always: above", x.chance(0, 0, 0), 1);
        due("always: below", x.chance(0, 0, 1), 1);
        Check.fill(x, 0, 0, 1);
        due("3 in 5: above", x.chance(0, 1, 0), 1);
        x = Check.told("line 2;thing at 0;person at 0 bears 0;opens:wet;wet 3;");
        x.numbers(0, 0, 10);
        due("the greatest there are: above", x.chance(0, 0, 0), 282475249L);
        due("the greatest there are: below", x.chance(0, 0, 1), 10000000000L);
        x = Check.told("line 2;thing at 0;person at 0 bears 99;opens:99;wet 3;");
        x.numbers(0, 0, 10);
        due("far too much", x.chance(0, 0, 0), 0);
        x.numbers(0, 0, 1);
        due("just so much", x.chance(0, 0, 0), 1);
    }

    private static void chanceRefused() {
        DOC.says("-2: the TRAY, the PERSON, what; -6; -4: not 1 to 10 numbers; -3: one is no THING.");
        GampLine x = Check.told("line 2;thing at 0;thing at 0;person at 0;");
        x.numbers(1, 3, 1);
        for (int n : new int[] {-1, 4, Integer.MAX_VALUE, Integer.MIN_VALUE}) {
            due("TRAY " + n, x.chance(n, 0, 0), -2);
            due("PERSON " + n, x.chance(1, n, 0), -2);
            due("what " + n, x.chance(1, 0, n), -2);
        }
        due("PERSON 1", x.chance(1, 1, 0), -2);
        due("what 2", x.chance(1, 0, 2), -2);
        due("MISSING", x.chance(0, 0, 0), -6);
        for (int n = 0; n <= 40; n++) {
            x.numbers(1, 3, n);
            due(n + " numbers", x.chance(1, 0, 0), n < 1 || n > 10 ? -4 : 1);
        }
        for (long v : new long[] {-1, 2, 3, 8, 256, 1L << 32, Long.MAX_VALUE, Long.MIN_VALUE}) {
            Check.fill(x, 1, 3, v);
            due("no THING: " + v, x.chance(1, 0, 1), -3);
            Check.fill(x, 1, 3, 0, 0, 0, 0, 0, 0, 0, 0, 0, v);
            due("the tenth is no THING: " + v, x.chance(1, 0, 1), -3);
        }
    }

    private static void bearing() {
        DOC.promise(41);
        DOC.says("The least that a PERSON would have to bear (0 to 999) so that CHANCE is m in 100 (0 to 100) at least.");
        GampLine x = Check.told("line 2;thing at 0 weight 2;person at 0 bears 0;opens:weight+wet*10;wet 1;");
        x.numbers(0, 0, 2);
        // 4 by 81, 14 by 18, 24 by 1 of 100.
        for (int m = 0; m <= 100; m++) {
            due("bearing(0, 0, " + m + ")", x.bearing(0, 0, m), m == 0 ? 0 : m <= 81 ? 4 : m <= 99 ? 14 : 24);
        }
        x = Check.told("line 2;thing at 0;person at 0;opens:99;");
        x.numbers(0, 0, 10);
        due("the greatest there is", x.bearing(0, 0, 100), 990);
        due("the greatest there is", x.bearing(0, 0, 1), 990);
        due("0 in 100", x.bearing(0, 0, 0), 0);
        x = Check.told("line 2;thing at 0;person at 0;opens:0;");
        x.numbers(0, 0, 10);
        due("nothing to bear", x.bearing(0, 0, 100), 0);
        x = Check.told("line 2;thing at 0;person at 0;opens:wet;wet 1;");
        x.numbers(0, 0, 10);
        // 10^10 ways: 9^10 without rain, one rain 10 * 9^9, and so on; all ten wet is one way.
        due("one in 10,000,000,000 counts", x.bearing(0, 0, 100), 10);
        due("34 in 100: dry is 34.8", x.bearing(0, 0, 34), 0);
        due("35 in 100", x.bearing(0, 0, 35), 1);
        due("73 in 100: one is 73.6", x.bearing(0, 0, 73), 1);
        due("74 in 100", x.bearing(0, 0, 74), 2);
        for (int bears = 0; bears < 10; bears++) {
            GampLine y = Check.told("line 2;thing at 0;person at 0 bears " + bears + ";opens:wet;wet 1;");
            y.numbers(0, 0, 10);
            long hundred = 100 * y.chance(0, 0, 0) / y.chance(0, 0, 1);
            due("as chance() tells", x.bearing(0, 0, (int) hundred) <= bears ? 1 : 0, 1);
            due("not one more in 100", x.bearing(0, 0, (int) hundred + 1) > bears ? 1 : 0, 1);
        }
    }

    private static void bearingRefused() {
        DOC.says("-2, -6, -4, -3 as chance(); -3: also m.");
        GampLine x = Check.told("line 2;thing at 0;thing at 0;person at 0;");
        x.numbers(1, 3, 1);
        for (int n : new int[] {-1, 4, Integer.MAX_VALUE, Integer.MIN_VALUE}) {
            due("TRAY " + n, x.bearing(n, 0, 0), -2);
            due("PERSON " + n, x.bearing(1, n, 0), -2);
        }
        due("PERSON 1", x.bearing(1, 1, 0), -2);
        due("MISSING", x.bearing(0, 0, 0), -6);
        for (int n = 0; n <= 40; n++) {
            x.numbers(1, 3, n);
            due(n + " numbers", x.bearing(1, 0, 0), n < 1 || n > 10 ? -4 : 0);
        }
        for (long v : new long[] {-1, 2, 3, 8, 256, 1L << 32, Long.MAX_VALUE, Long.MIN_VALUE}) {
            Check.fill(x, 1, 3, 0, v);
            due("no THING: " + v, x.bearing(1, 0, 0), -3);
        }
        x.numbers(1, 3, 1);
        for (int m : new int[] {-1, 101, Integer.MAX_VALUE, Integer.MIN_VALUE}) {
            due("bearing(1, 0, " + m + ")", x.bearing(1, 0, m), -3);
        }
        due("m 0", x.bearing(1, 0, 0), 0);
        due("m 100", x.bearing(1, 0, 100), 0);
    }
}
