/** The document's terms, part 2: the laws, deeds, days, why not, deeds in a tray, undoing; a test for each sentence. */
public final class DeedSentencesTest {
    private static final Sentences DOC = new Sentences("DeedSentencesTest");
    /** All six people and eight things: 0 to 3 hold one, 6 and 7 are in the office on the first day. */
    private static final String FULL = "line 5;thing at 0 weight 1;thing at 0 hue 1 weight 2;thing at 0 hue 2 weight 3;"
        + "thing at 0 hue 3 weight 4;thing at 1 hue 4;thing at 2 hue 5;thing at 4 hue 4;thing at 4 hue 9;"
        + "person at 0 holds 0;person at 1 mark 1 holds 1 bears 3;person at 2 mark 2 holds 2;"
        + "person at 4 mark 3 holds 3 bears 3;person at 3 mark 4 bears 0;person at 3 mark 5;wet 5;";

    public static void main(String[] args) {
        DOC.section("==== 2.", "==== 3.");
        facts();
        kept();
        ifTells();
        claimed();
        burdens();
        whereThingsAre();
        toLeave();
        toFetch();
        toOpen();
        toSwap();
        toHaveAMark();
        draws();
        weather();
        borneNoMore();
        thingsGoOn();
        takenAtOnce();
        fromTheLastStation();
        dayIsOneMore();
        whyNot();
        deedsInATray();
        othersInATray();
        undone();
        undoneAsAWhole();
        tenAtMost();
        allThatIsUndone();
        DOC.end();
    }

    private static void due(String call, long got, long want) {
        DOC.due(call, got, want);
    }

    private static GampLine lawful(String claims, String opens) {
        return Check.told("line 3;thing at 0 hue 2 weight 3;thing at 1 hue 4 weight 5;thing at 2 hue 6 weight 7;"
            + "person at 0 mark 8 holds 0 bears 99;person at 1 mark 9 bears 99 holds 1;person at 2 bears 98;wet 10;claims:"
            + claims + ";opens:" + opens + ";");
    }

    private static void facts() {
        DOC.says("In both laws: who, mark: the PERSON's number, its MARK, thing, hue, weight: of the THING;");
        String[] words = {"who", "mark", "thing", "hue", "weight"};
        int[][] values = {{0, 8, 0, 2, 3}, {1, 9, 1, 4, 5}, {2, 0, 2, 6, 7}};
        for (int i = 0; i < 5; i++) {
            GampLine x = lawful(words[i], words[i]);
            for (int p = 0; p < 3; p++) {
                for (int t = 0; t < 3; t++) {
                    due("claims by " + words[i], x.claims(p, t), values[i < 2 ? p : t][i]);
                    due("burden by " + words[i], x.burden(p, t), values[i < 2 ? p : t][i]);
                }
            }
            x.mark(2, 5);
            due("the MARK it has now", x.claims(2, 0), i == 1 ? 5 : values[i < 2 ? 2 : 0][i]);
        }
        DOC.says("wet: 1 if it is WET, else 0,");
        GampLine x = lawful("1", "7+wet*10");
        due("dry", x.burden(0, 0), 7);
        x.days(1);
        due("WET", x.burden(0, 0), 17);
        x.undo(1);
        due("dry again", x.burden(0, 0), 7);
        DOC.says("borne: what the PERSON has BORNE;");
        x = lawful("1", "borne+3");
        due("none", x.burden(0, 0), 3);
        x.open(0);
        due("3", x.burden(0, 0), 6);
        due("by which THING is all one", x.burden(0, 2), 6);
        due("another PERSON has none", x.burden(1, 0), 3);
        x.open(0);
        due("9", x.burden(0, 0), 12);
    }

    private static int worth(String law) {
        return lawful(law, "1").claims(1, 1);
    }

    private static void kept() {
        DOC.says("each + - * is kept from -1,000,000 to 1,000,000;");
        due("just so much", worth("999*999+999+999+1"), 1000000);
        due("one more", worth("999*999+999+999+2"), 1000000);
        due("one more, then one less", worth("999*999+999+999+2-1"), 999999);
        due("one less", worth("999*999+999+999"), 999999);
        due("just so much below 0", worth("0-999*999-999-999-1"), -1000000);
        due("one more below 0", worth("0-999*999-999-999-2"), -1000000);
        due("one more below 0, then one less", worth("0-999*999-999-999-2+1"), -999999);
        due("one less below 0", worth("0-999*999-999-999"), -999999);
        due("*", worth("500*500*4"), 1000000);
        due("* beyond", worth("500*501*4-1"), 999999);
        due("* below", worth("(0-500)*500*4"), -1000000);
        due("* beyond below", worth("(0-500)*501*4+1"), -999999);
        due("both below 0", worth("(0-999*999)*(0-999*999)-1"), 999999);
        due("the least * the greatest", worth("(0-999*999*2)*(999*999*2)+1"), -999999);
        due("-", worth("(0-999*999*2)-(999*999*2)+1"), -999999);
        due("+", worth("(999*999*2)+(999*999*2)-1"), 999999);
        due("in a TRUTH, too", worth("if 999*999*2-1=999*999+999+999 then 1 else 2 end"), 1);
    }

    private static void ifTells() {
        DOC.says("if tells the one SUM, if the TRUTH holds, else the other one.");
        due("it holds", worth("if 1=1 then 5 else 6 end"), 5);
        due("else", worth("if 1=2 then 5 else 6 end"), 6);
        due("by facts", worth("if mark=9 then weight else hue end"), 5);
        due("else by facts", worth("if mark=8 then weight else hue end"), 4);
        due("within the one", worth("if 1=1 then if 1=2 then 5 else 7 end else 6 end"), 7);
        due("within the other", worth("if 1=2 then 5 else if 1=1 then 8 else 9 end end"), 8);
        due("within the TRUTH", worth("if if 1=1 then 1 else 2 end=2 then 5 else 6 end"), 6);
    }

    private static void claimed() {
        DOC.says("A PERSON CLAIMS a THING as much as the law claims tells (without one: 1, if its MARK is the hue, else 0).");
        due("by the law", lawful("mark*10+hue", "1").claims(1, 2), 96);
        due("below 0", lawful("0-mark", "1").claims(1, 2), -9);
        for (int mark = 0; mark < 10; mark++) {
            GampLine x = Check.told("line 2;thing at 0 hue 0;thing at 0 hue 5;thing at 0 hue 9;person at 0 mark " + mark + ";");
            due("MARK " + mark + ", hue 0", x.claims(0, 0), mark == 0 ? 1 : 0);
            due("MARK " + mark + ", hue 5", x.claims(0, 1), mark == 5 ? 1 : 0);
            due("MARK " + mark + ", hue 9", x.claims(0, 2), mark == 9 ? 1 : 0);
        }
    }

    private static void burdens() {
        DOC.says("To open it is a BURDEN as the law opens tells, 0 at least, 99 at most (without one: its weight).");
        int[] told = {-999, -1, 0, 1, 98, 99, 100, 999};
        for (int n : told) {
            String law = n < 0 ? "0-" + -n : Integer.toString(n);
            due("opens: " + law, lawful("1", law).burden(0, 0), Math.max(0, Math.min(99, n)));
        }
        due("the least there is", lawful("1", "0-999*999*9").burden(0, 0), 0);
        due("the most there is", lawful("1", "999*999*9").burden(0, 0), 99);
        for (int weight = 0; weight < 10; weight++) {
            GampLine x = Check.told("line 2;thing at 0 weight " + weight + ";person at 0 mark 3;wet 10;");
            due("weight " + weight, x.burden(0, 0), weight);
            x.days(1);
            due("wet or dry", x.burden(0, 0), weight);
        }
        GampLine x = lawful("1", "150");
        due("it bears 99: 99 can be", x.open(0), 99);
        x.leave(0);
        x = Check.told("line 2;thing at 0;person at 0 bears 98 holds 0;opens:100;");
        due("it bears 98: 99 can't be", x.open(0), -13);
    }

    private static void whereThingsAre() {
        DOC.says("A THING is on the RACK at a STATION, HELD by a PERSON (one each at most), or in the OFFICE.");
        GampLine x = Check.told("line 3;thing at 0;thing at 0;thing at 0;thing at 2;person at 1;person at 2 holds 0;");
        due("on a RACK", x.thing(1, 0), 0);
        due("HELD", x.thing(0, 0), 11);
        x.days(1);
        due("HELD then", x.thing(1, 0), 10);
        due("one each at most", x.thing(2, 0), 1);
        due("in the OFFICE", x.thing(3, 0), 99);
        x.days(1);
        due("one each at most there, too", x.thing(2, 0), 2);
        due("HELD by two", x.count(4), 3);
        due("in the OFFICE", x.count(3), 8);
    }

    private static void toLeave() {
        DOC.says("To LEAVE: who HOLDS one leaves it on the RACK at its STATION.");
        GampLine x = Check.told(FULL);
        int[] home = {0, 1, 2, 4};
        for (int p = 0; p < 4; p++) {
            due("leave(" + p + ")", x.leave(p), p);
            due("at the PERSON's STATION", x.thing(p, 0), home[p]);
            due("it HOLDS none", x.person(p, 3), -1);
            due("once more", x.leave(p), -12);
        }
    }

    private static void toFetch() {
        DOC.says("To FETCH: who HOLDS none has one that it CLAIMS (above 0) from the OFFICE.");
        GampLine x = Check.told(FULL);
        due("not yet in the OFFICE", x.fetch(4, 6), -13);
        x.days(1);
        due("in the OFFICE", x.count(3), 192);
        due("not CLAIMED", x.fetch(4, 7), -13);
        due("not in the OFFICE", x.fetch(4, 4), -13);
        due("it HOLDS one", x.fetch(3, 7), -12);
        due("one is left there", x.fetch(4, 6), 1);
        due("it has it", x.person(4, 3), 6);
        due("it HOLDS one now", x.fetch(4, 7), -12);
        for (int claim = -1; claim <= 1; claim++) {
            x = Check.told("line 2;thing at 1;person at 0;claims:" + (claim + 1) + "-1;");
            x.days(1);
            due("CLAIMED " + claim, x.fetch(0, 0), claim > 0 ? 0 : -13);
        }
    }

    private static void toOpen() {
        DOC.says("To OPEN the one HELD: what it has BORNE is so much more as the BURDEN is, no more than it bears.");
        GampLine x = Check.told("line 2;thing at 0 weight 3;person at 0 bears 8 holds 0;person at 0 bears 9;person at 0 bears 0;");
        due("3", x.open(0), 3);
        due("6", x.open(0), 6);
        due("9 is more than 8", x.open(0), -13);
        due("BORNE", x.person(0, 4), 6);
        due("OPENED", x.thing(0, 3), 2);
        due("still HELD", x.person(0, 3), 0);
        x = Check.told("line 2;thing at 0 weight 3;person at 0 bears 9 holds 0;");
        x.open(0);
        x.open(0);
        due("9 is no more than 9", x.open(0), 9);
        due("nor one more", x.open(0), -13);
        x = Check.told("line 2;thing at 0;person at 0 bears 0 holds 0;");
        due("0 is no more than 0", x.open(0), 0);
        due("OPENED", x.thing(0, 3), 1);
        x = Check.told("line 2;thing at 0 weight 1;person at 0 bears 0 holds 0;");
        due("1 is more than 0", x.open(0), -13);
        due("not OPENED", x.thing(0, 3), 0);
    }

    private static void toSwap() {
        DOC.says("To SWAP: two who HOLD one each have the other one's.");
        GampLine x = Check.told(FULL);
        due("swap(0, 3)", x.swap(0, 3), 3);
        due("the other one", x.person(3, 3), 0);
        due("where 0 is", x.thing(0, 0), 13);
        due("where 3 is", x.thing(3, 0), 10);
        due("others stay", x.person(1, 3), 1);
        due("swap(3, 1)", x.swap(3, 1), 1);
        due("the other one", x.person(1, 3), 0);
        due("one HOLDS none", x.swap(0, 4), -12);
        due("the other HOLDS none", x.swap(4, 0), -12);
        due("one alone", x.swap(0, 0), -11);
    }

    private static void toHaveAMark() {
        DOC.says("To have a MARK.");
        GampLine x = Check.told(FULL);
        for (int n = 0; n < 10; n++) {
            due("the MARK ahead", x.mark(5, n), n == 0 ? 5 : n - 1);
            due("the MARK", x.person(5, 1), n);
            due("another one's", x.person(4, 1), 4);
        }
    }

    private static int after(int x, int times) {
        int then = x;
        for (int i = 0; i < times; i++) {
            then = (int) (1103515245L * then + 12345L);
        }
        return then;
    }

    private static void draws() {
        DOC.says("A DAY: a DRAW (x, an int, 0 at first; told by a call;"
            + " it becomes 1103515245 x + 12345, a DRAW is x >>> 16) modulo 10:");
        int[] seeds = {0, 1, -1, 7, 65536, Integer.MAX_VALUE, Integer.MIN_VALUE, -1103515245, 123456789};
        for (int seed : seeds) {
            GampLine x = Check.told("line 2;wet 5;");
            due("0 at first", x.seed(seed), 0);
            for (int i = 1; i <= 12; i++) {
                x.days(1);
                int draw = (int) ((after(seed, i) & 0xffffffffL) >> 16);
                due("WET by the DRAW of " + seed + ", " + i, x.count(5), draw % 10 < 5 ? 1 : 0);
            }
            due("x then", x.seed(0), after(seed, 12));
        }
        GampLine x = Check.told("line 2;");
        x.days(1);
        due("one DRAW a DAY, though none is wet", x.seed(0), 12345);
        x.days(99);
        due("99 DAYS", x.seed(0), after(0, 99));
    }

    private static void weather() {
        DOC.says("it is WET, if it is below wet, else dry (at first, too).");
        for (int wet = 0; wet <= 10; wet++) {
            GampLine x = Check.told("line 2;wet " + wet + ";");
            due("dry at first", x.count(5), 0);
            for (int i = 1; i <= 30; i++) {
                x.days(1);
                due("wet " + wet, x.count(5), (after(0, i) >>> 16) % 10 < wet ? 1 : 0);
            }
            Check.tell(x, "line 2;wet 10;");
            due("dry at first by another text", x.count(5), 0);
        }
    }

    private static void borneNoMore() {
        DOC.says("What all have BORNE is 0.");
        GampLine x = Check.told(FULL);
        for (int p = 0; p < 3; p++) {
            x.open(p);
            due("BORNE", x.person(p, 4), p + 1);
        }
        x.days(1);
        for (int p = 0; p < 6; p++) {
            due("0", x.person(p, 4), 0);
        }
        due("OPENED stays", x.thing(1, 3), 1);
    }

    private static void thingsGoOn() {
        DOC.says("Each THING on a RACK, by numbers, goes to the next STATION;");
        GampLine x = Check.told("line 8;" + "thing at 0;".repeat(4) + "thing at 3;thing at 6;thing at 0;thing at 7;"
            + "person at 5 mark 1 holds 6;");
        int[] first = {1, 1, 1, 1, 4, 7, 10, 99};
        int[] second = {2, 2, 2, 2, 5, 99, 10, 99};
        x.days(1);
        for (int t = 0; t < 8; t++) {
            due("thing " + t + " on the first DAY", x.thing(t, 0), first[t]);
        }
        x.days(1);
        for (int t = 0; t < 8; t++) {
            due("thing " + t + " on the second DAY", x.thing(t, 0), second[t]);
        }
        // By numbers, not by where they lie: thing 0 comes from afar, and is first.
        x = Check.told("line 3;thing at 0;thing at 0;person at 1;");
        x.days(1);
        due("the lesser number is taken", x.thing(0, 0), 10);
        due("the other one goes on", x.thing(1, 0), 1);
    }

    private static void takenAtOnce() {
        DOC.says("there of PEOPLE who HOLD none the one that CLAIMS it most, above 0, of like ones the first, takes it at once;");
        GampLine x = Check.told("line 4;thing at 0;person at 2;person at 1 mark 3;person at 1 mark 5;person at 1 mark 5;"
            + "person at 0 mark 9;person at 1 mark 4;claims:mark;");
        due("one is taken", x.days(1), 1);
        due("by who CLAIMS it most, the first", x.thing(0, 0), 12);
        x = Check.told("line 4;thing at 0;thing at 3;person at 1 mark 9 holds 1;person at 1 mark 1;claims:mark;");
        x.days(1);
        due("of those who HOLD none", x.thing(0, 0), 11);
        x = Check.told("line 4;thing at 0;person at 1;person at 1;claims:0;");
        due("0 isn't above 0", x.days(1), 0);
        x = Check.told("line 4;thing at 0;person at 1;person at 1;claims:who-1;");
        due("nor is less", x.days(1), 0);
        due("it goes on", x.thing(0, 0), 1);
        x = Check.told("line 4;thing at 0;person at 1;person at 1;claims:who*2-1;");
        x.days(1);
        due("1 is", x.thing(0, 0), 11);
        x = Check.told("line 4;thing at 0;thing at 0;thing at 0;person at 1;person at 1;claims:1;");
        due("at once: who took one HOLDS one", x.days(1), 2);
        due("the first took the first", x.thing(0, 0), 10);
        due("the second took the second", x.thing(1, 0), 11);
        due("the third goes on", x.thing(2, 0), 1);
        x = Check.told("line 4;thing at 1;person at 1;claims:1;");
        due("there, not where it lay", x.days(3), 0);
    }

    private static void fromTheLastStation() {
        DOC.says("from the last STATION it goes to the OFFICE.");
        for (int n = 2; n <= 8; n++) {
            GampLine x = Check.told("line " + n + ";thing at " + (n - 1) + ";thing at " + (n - 2) + ";person at 0;person at "
                + (n - 1) + " mark 1;");
            x.days(1);
            due("the OFFICE", x.count(3), 1);
            due("the last STATION", x.thing(1, 0), n - 1);
            x.days(1);
            due("both", x.count(3), 3);
            x.days(99);
            due("there it stays", x.count(3), 3);
        }
        GampLine x = Check.told("line 2;thing at 0;person at 1;");
        x.days(1);
        due("at the last STATION it may be taken", x.thing(0, 0), 10);
    }

    private static void dayIsOneMore() {
        DOC.says("DAY is 1 more.");
        GampLine x = new GampLine();
        for (int i = 0; i < 5; i++) {
            due("DAY", x.count(6), i);
            x.days(1);
        }
        x.days(99);
        due("99 more", x.count(6), 104);
        Check.fill(x, 0, 0, -1, -1);
        x.perform(0);
        due("in a TRAY, too", x.count(6), 106);
    }

    private static void whyNot() {
        DOC.says("Why not: 1 no such PERSON, THING, MARK, both one.");
        GampLine x = Check.told(FULL);
        int[] none = {-1, 6, 7, 10, Integer.MAX_VALUE, Integer.MIN_VALUE};
        for (int p : none) {
            due("leave(" + p + ")", x.leave(p), -11);
            due("open(" + p + ")", x.open(p), -11);
            due("fetch(" + p + ", 0)", x.fetch(p, 0), -11);
            due("swap(" + p + ", 0)", x.swap(p, 0), -11);
            due("swap(0, " + p + ")", x.swap(0, p), -11);
            due("mark(" + p + ", 0)", x.mark(p, 0), -11);
        }
        int[] no = {-1, 8, 9, 10, Integer.MAX_VALUE, Integer.MIN_VALUE};
        for (int t : no) {
            due("fetch(4, " + t + ")", x.fetch(4, t), -11);
            due("ahead of what it HOLDS: fetch(0, " + t + ")", x.fetch(0, t), -11);
        }
        due("mark(0, -1)", x.mark(0, -1), -11);
        due("mark(0, 10)", x.mark(0, 10), -11);
        due("swap(0, 0)", x.swap(0, 0), -11);
        due("swap(4, 4), who HOLDS none", x.swap(4, 4), -11);
        DOC.says("2 it HOLDS none (to LEAVE, OPEN, SWAP: one of both), it HOLDS one (to FETCH).");
        due("leave(4)", x.leave(4), -12);
        due("open(4)", x.open(4), -12);
        due("swap(0, 4)", x.swap(0, 4), -12);
        due("swap(4, 0)", x.swap(4, 0), -12);
        due("swap(4, 5)", x.swap(4, 5), -12);
        x.days(1);
        due("fetch(0, 6)", x.fetch(0, 6), -12);
        due("ahead of where it is", x.fetch(0, 0), -12);
        DOC.says("3 it isn't in the OFFICE, it isn't CLAIMED; it can't bear it.");
        due("on a RACK", x.fetch(4, 5), -13);
        due("HELD", x.fetch(4, 1), -13);
        due("not CLAIMED", x.fetch(4, 7), -13);
        x.swap(1, 3);
        due("it can't bear it", x.open(1), -13);
        due("another one can", x.open(3), 2);
    }

    private static GampLine prepared(int days) {
        GampLine x = Check.told(FULL);
        if (days > 0) {
            x.days(days);
        }
        return x;
    }

    /** Each number, done out of a tray and by its own call, comes to the same. */
    private static void alike(int v, int days) {
        GampLine x = prepared(days);
        GampLine y = prepared(days);
        int code;
        if (v == -1) {
            code = y.days(1);
        } else if (v < 10) {
            code = y.leave(v);
        } else if (v < 20) {
            code = y.open(v - 10);
        } else if (v < 200) {
            code = y.fetch((v - 100) / 10, v % 10);
        } else if (v < 300) {
            code = y.swap((v - 200) / 10, v % 10);
        } else {
            code = y.mark((v - 300) / 10, v % 10);
        }
        Check.fill(x, 3, 1, v);
        Check.fill(y, 3, 1, v);
        boolean can = code >= 0;
        due("judge " + v + ": where", x.judge(3, 0), can ? -1 : 0);
        due("judge " + v + ": why", x.judge(3, 1), can ? 0 : -10 - code);
        due("perform " + v, x.perform(3), can ? 1 : 0);
        DOC.same("as by its own call: " + v, Seen.whole(x), Seen.whole(y));
    }

    private static void deedsInATray() {
        DOC.says("DEEDS in a TRAY: 0 to 9: PERSON v LEAVES; 10 to 19: PERSON v - 10 OPENS;"
            + " 100 to 199: PERSON (v - 100) by 10 FETCHES THING v modulo 10;"
            + " 200 to 299: PERSON (v - 200) by 10 SWAPS with PERSON v modulo 10;"
            + " 300 to 399: PERSON (v - 300) by 10 has MARK v modulo 10; NONE: a DAY;");
        for (int days = 0; days < 3; days++) {
            for (int v = -1; v < 400; v++) {
                if (v < 20 || v >= 100) {
                    alike(v, days);
                }
            }
        }
    }

    private static void othersInATray() {
        DOC.says("others: 1.");
        GampLine x = Check.told(FULL);
        x.days(1);
        for (long v = 20; v < 100; v++) {
            Check.fill(x, 0, 3, v);
            due("judge " + v, x.judge(0, 1), 1);
        }
        long[] far = {-2, -3, -10, -100, 400, 401, 1000, 1L << 32, (1L << 32) - 1, (1L << 32) + 12, -(1L << 32),
            Long.MAX_VALUE, Long.MIN_VALUE};
        for (long v : far) {
            Check.fill(x, 0, 3, v);
            due("judge " + v, x.judge(0, 1), 1);
            due("where", x.judge(0, 0), 0);
            due("perform", x.perform(0), 0);
        }
        Check.fill(x, 0, 0, 255);
        due("255 in 8 bits is NONE: a DAY", x.judge(0, 1), 0);
        Check.fill(x, 0, 0, 200);
        due("200 in 8 bits is -56", x.judge(0, 1), 1);
    }

    private static void undone() {
        DOC.says("Calls that did some can be UNDONE");
        GampLine x = Check.told(FULL);
        x.seed(5);
        due("seed", x.count(7), 1);
        x.leave(3);
        due("leave", x.count(7), 2);
        x.days(2);
        due("days", x.count(7), 3);
        x.mark(3, 9);
        x.fetch(3, 7);
        due("mark, fetch", x.count(7), 5);
        x.open(3);
        due("open", x.count(7), 6);
        x.swap(0, 1);
        due("swap", x.count(7), 7);
        Check.fill(x, 0, 1, -1, 99);
        due("perform", x.perform(0), 1);
        due("perform", x.count(7), 8);
        due("season", x.season(0, 40) > 0 ? 1 : 0, 1);
        due("season", x.count(7), 9);
        Check.fill(x, 0, 1, 99, -1);
        due("none done", x.perform(0), 0);
        x.leave(99);
        x.undo(99);
        x.judge(0, 0);
        x.image(0);
        x.numbers(1, 1, 1);
        x.goes(0, 0);
        due("no others", x.count(7), 9);
        for (int i = 8; i >= 0; i--) {
            due("undo", x.undo(1), i);
        }
    }

    private static void undoneAsAWhole() {
        DOC.says("each as a whole, the latest first,");
        GampLine x = Check.told(FULL);
        Check.fill(x, 0, 1, 312, 1, -1, 343, 2, 99);
        String[] seen = new String[6];
        for (int i = 0; i < 6; i++) {
            seen[i] = Seen.of(x);
            switch (i) {
                case 0 -> x.days(3);
                case 1 -> x.leave(0);
                case 2 -> due("five deeds in one call", x.perform(0), 5);
                case 3 -> x.mark(1, 7);
                case 4 -> x.season(3, 30);
                default -> x.days(99);
            }
        }
        for (int i = 5; i >= 0; i--) {
            due("undo", x.undo(1), i);
            DOC.same("as it was ahead of call " + i, Seen.of(x), seen[i]);
        }
        x = Check.told(FULL);
        x.mark(0, 1);
        x.mark(0, 2);
        x.mark(0, 3);
        x.mark(0, 4);
        due("three at once", x.undo(3), 1);
        due("the MARK behind the first", x.person(0, 1), 1);
    }

    private static void tenAtMost() {
        DOC.says("10 at most (eldest are forgotten):");
        GampLine x = Check.told(FULL);
        for (int i = 0; i < 25; i++) {
            x.seed(100 + i);
            due("so many", x.count(7), Math.min(10, i + 1));
        }
        due("11", x.undo(11), -3);
        due("10", x.undo(10), 0);
        due("x behind the fifteenth", x.seed(0), 114);
        due("undo that", x.undo(1), 0);
        due("no more", x.undo(1), -3);
        for (int i = 0; i < 12; i++) {
            x.seed(200 + i);
        }
        for (int i = 10; i >= 1; i--) {
            due("one by one", x.undo(1), i - 1);
        }
        due("x behind the second", x.seed(0), 201);
    }

    private static void allThatIsUndone() {
        DOC.says("THINGS, MARKS, what was BORNE, OPENED how often, the weather, DAY, x.");
        GampLine x = Check.told(FULL.replace("wet 5", "wet 10"));
        x.open(0);
        x.seed(77);
        Check.fill(x, 0, 1, 10, 11, 309, 0, -1, 1, -1);
        due("all can be", x.perform(0), 7);
        due("THING 0", x.thing(0, 0), 2);
        due("WET", x.count(5), 1);
        due("DAY", x.count(6), 2);
        due("undo", x.undo(1), 2);
        due("THING 0", x.thing(0, 0), 10);
        due("THING 1", x.thing(1, 0), 11);
        due("MARK", x.person(0, 1), 0);
        due("BORNE", x.person(0, 4), 1);
        due("BORNE by another", x.person(1, 4), 0);
        due("OPENED", x.thing(0, 3), 1);
        due("OPENED by another", x.thing(1, 3), 0);
        due("weather", x.count(5), 0);
        due("DAY", x.count(6), 0);
        due("x", x.seed(0), 77);
        x.undo(1);
        x.days(1);
        x.days(1);
        x.undo(1);
        due("WET of the day ahead", x.count(5), 1);
        due("DAY", x.count(6), 1);
    }
}
