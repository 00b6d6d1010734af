/** Promises 33 to 35 and 44: the fewest days in which one opens some, in which order, the most in a day. */
public final class OpeningTest {
    private static final Check CHECK = new Check("OpeningTest");

    public static void main(String[] args) {
        fewestDays();
        firstOrder();
        byWhatIsBorne();
        onADay();
        refused();
        lists();
        CHECK.end();
    }

    private static void due(String call, long got, long want) {
        CHECK.due(call, got, want);
    }

    private static String things(int... weights) {
        StringBuilder s = new StringBuilder("line 2;");
        for (int w : weights) {
            s.append("thing at 0 weight ").append(w).append(';');
        }
        return s.toString();
    }

    private static void order(GampLine x, int p, int set, int... want) {
        for (int i = 0; i < want.length; i++) {
            due("openedBy(" + p + ", " + set + ", " + i + ")", x.openedBy(p, set, i), want[i]);
        }
        due("openedBy beyond", x.openedBy(p, set, want.length), -1);
        due("openedBy far beyond", x.openedBy(p, set, Integer.MAX_VALUE), -1);
    }

    private static void fewestDays() {
        GampLine x = Check.told(things(5, 5, 5, 5, 9, 1) + "person at 0;person at 0 bears 9;person at 0 bears 4;"
            + "person at 1 bears 99;wet 10;");
        due("two a day", x.opening(0, 15), 2);
        due("all of them", x.opening(0, 63), 3);
        due("one a day", x.opening(1, 15), 4);
        due("it can't", x.opening(2, 1), -1);
        due("it can this one", x.opening(2, 32), 1);
        due("one can't be of two", x.opening(2, 33), -1);
        due("all in a day", x.opening(3, 63), 1);
        due("none", x.opening(2, 0), 0);
        x.days(1);
        due("wet, but dry here", x.count(5), 1);
        due("still so", x.opening(0, 15), 2);
        x = Check.told(things(0, 0) + "person at 0 bears 0;");
        due("burdens of 0 take 1 day", x.opening(0, 3), 1);
        x = Check.told(things(9, 9, 9, 9, 9, 9, 9, 9) + "person at 0 bears 9;");
        due("eight days", x.opening(0, 255), 8);
        x = Check.told(things(3) + "person at 0 bears 5 holds 0;");
        x.open(0);
        due("what it has borne now doesn't count", x.opening(0, 1), 1);
    }

    private static void firstOrder() {
        GampLine x = Check.told(things(4, 3, 6, 7) + "person at 0;");
        // 4 + 6 and 3 + 7, in two days: 0 2 | 1 3 is the first of all.
        due("days", x.opening(0, 15), 2);
        order(x, 0, 15, 0, 2, 1, 3);
        order(x, 0, 7, 0, 1, 2);
        due("days", x.opening(0, 7), 2);
        order(x, 0, 0);
        order(x, 0, 8, 3);
        x = Check.told(things(2, 9, 8) + "person at 0;");
        order(x, 0, 7, 0, 2, 1);
        x = Check.told(things(11 - 2, 1) + "person at 0 bears 5;");
        order(x, 0, 3);
        due("it can't", x.opening(0, 3), -1);
        x = Check.told(things(1, 1, 1, 1, 1, 1, 1, 1) + "person at 0;");
        order(x, 0, 255, 0, 1, 2, 3, 4, 5, 6, 7);
    }

    private static void byWhatIsBorne() {
        // Once one has borne more than 2, each burden is 9; so the heavy one must come last on a day.
        GampLine x = Check.told(things(5, 1, 1) + "person at 0 bears 8;opens:if borne>2 then 9 else weight end;");
        due("in a day", x.opening(0, 7), 1);
        order(x, 0, 7, 1, 2, 0);
        // A first burden is heavy, what comes behind is light: it is better to go on.
        x = Check.told(things(0, 0, 0) + "person at 0 bears 8;opens:if borne=0 then 6 else 1 end;");
        due("go on", x.opening(0, 7), 1);
        // The same first thing, but the day's end behind it or not: both kept in mind.
        x = Check.told(things(3, 4, 5) + "person at 0 bears 6;person at 0 bears 5;"
            + "opens:if borne=0 then weight else if thing=2 then 2 else 9 end end;");
        due("two days", x.opening(0, 7), 2);
        order(x, 0, 7, 0, 1, 2);
        due("two days, too", x.opening(1, 7), 2);
        order(x, 1, 7, 0, 2, 1);
        // By marks, too.
        x = Check.told(things(0) + "person at 0 mark 4 bears 9;opens:mark*2;");
        due("mark 4", x.opening(0, 1), 1);
        x.mark(0, 5);
        due("mark 5", x.opening(0, 1), -1);
        due("in a day", x.inADay(0, 1), 0);
    }

    private static void onADay() {
        GampLine x = Check.told(things(9, 5, 5, 4, 6) + "person at 0;person at 0 bears 0;");
        due("the least set of like ones", x.inADay(0, 31), 6);
        due("of others", x.inADay(0, 25), 8 + 16);
        due("one of one", x.inADay(0, 1), 1);
        due("none", x.inADay(0, 0), 0);
        due("it can bear none", x.inADay(1, 31), 0);
        x = Check.told(things(5, 1, 1) + "person at 0 bears 8;opens:if borne>2 then 9 else weight end;");
        due("in an order that can be", x.inADay(0, 7), 7);
        x = Check.told(things(1, 1, 1, 1, 1, 1, 1, 1) + "person at 0 bears 3;");
        due("three of eight", x.inADay(0, 255), 7);
        due("three of the last", x.inADay(0, 240), 112);
    }

    private static void refused() {
        GampLine x = Check.told(things(1, 1) + "person at 0;");
        int[] sets = {4, 7, -1, 256, Integer.MIN_VALUE, Integer.MAX_VALUE, 1 << 8, 8};
        for (int set : sets) {
            due("opening(0, " + set + ")", x.opening(0, set), -3);
            due("openedBy(0, " + set + ", 0)", x.openedBy(0, set, 0), -3);
            due("inADay(0, " + set + ")", x.inADay(0, set), -3);
            due("opening(1, " + set + ")", x.opening(1, set), -2);
            due("openedBy(1, " + set + ", -1)", x.openedBy(1, set, -1), -2);
            due("inADay(1, " + set + ")", x.inADay(1, set), -2);
        }
        due("opening(-1, 0)", x.opening(-1, 0), -2);
        due("openedBy(0, 3, -1)", x.openedBy(0, 3, -1), -3);
        due("openedBy(0, 0, -1)", x.openedBy(0, 0, -1), -3);
    }

    private static void lists() {
        GampLine x = Check.told(things(4, 3, 6, 7) + "person at 0;person at 0 bears 6;");
        due("lists(-1, 0, 1)", x.lists(-1, 0, 1), -2);
        due("lists(4, 0, 1)", x.lists(4, 0, 1), -2);
        due("lists(0, 2, 1)", x.lists(0, 2, 1), -2);
        due("lists(0, -1, 1)", x.lists(0, -1, 1), -2);
        due("missing", x.lists(0, 0, 16), -6);
        Check.fill(x, 0, 0, 50, 50, 50, 50, 50, 50);
        due("the set", x.lists(0, 0, 16), -3);
        due("the set", x.lists(0, 0, -1), -3);
        due("it can't", x.lists(0, 1, 8), -5);
        due("all of it", x.lists(0, 0, 15), 4);
        // As deeds the tray says: 0 leaves, 2 leaves (no such person).
        due("first is 0: a deed of person 0", x.judge(0, 1), 2);
        // As numbers of chance(): what stands there is a thing, what stood there isn't.
        due("the rest stays", x.chance(0, 0, 0), -3);
        Check.fill(x, 0, 0, 50, 50);
        due("as far as it has places", x.lists(0, 0, 15), 2);
        due("0 and 2 stand there", x.bearing(0, 0, 100), 10);
        Check.fill(x, 1, 2);
        due("no places", x.lists(1, 0, 15), 0);
        Check.fill(x, 1, 2, 9);
        due("no things", x.lists(1, 0, 0), 0);
        due("nothing can be undone by it", x.count(7), 0);
    }
}
