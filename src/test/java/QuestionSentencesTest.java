/** The document's terms, part 3, but for refused calls: what is left, matched, traded, opened, chosen, likely; trays. */
public final class QuestionSentencesTest {
    private static final Sentences DOC = new Sentences("QuestionSentencesTest");

    public static void main(String[] args) {
        DOC.section("==== 3.", "Refused calls");
        left();
        plansOfATray();
        plans();
        theMatching();
        likeMatchings();
        pointing();
        rings();
        rounds();
        opening();
        openingInOrder();
        answers();
        choosing();
        chance();
        chanceGoesOn();
        seasons();
        trays();
        images();
        DOC.end();
    }

    private static void due(String call, long got, long want) {
        DOC.due(call, got, want);
    }

    private static void left() {
        DOC.says("LEFT: a THING on the RACK at a STATION (who HELD it HOLDS none), all else as now,"
            + " no other THINGS on RACKS, DAYS go by: who takes it, or the OFFICE.");
        GampLine x = Check.told("line 6;thing at 0;thing at 0;thing at 5;thing at 0;person at 2;person at 2 mark 1;"
            + "person at 4 holds 1;person at 4 holds 3 mark 2;person at 5;claims:if mark=1 then 2 else 1 end;");
        int[] who = {1, 1, 4, 4, 4, -1};
        int[] days = {2, 1, 3, 2, 1, 1};
        for (int s = 0; s < 6; s++) {
            due("who takes 0 from " + s, x.goes(0, s), who[s]);
            due("on which DAY", x.takes(0, s), days[s]);
            due("0 and 2 alike, wherever they are now", x.goes(2, s), who[s]);
        }
        due("who HELD it HOLDS none", x.goes(1, 2), 2);
        due("who HELD it HOLDS none, another one still does", x.goes(3, 2), 3);
        x.days(1);
        due("in the OFFICE now", x.thing(2, 0), 99);
        due("from the OFFICE, too", x.goes(2, 0), 1);
        due("no other THING on a RACK comes first", x.goes(3, 0), 1);
        x.mark(1, 0);
        due("MARKS as now", x.goes(3, 0), 0);
        x.days(1);
        due("0 took 0", x.thing(0, 0), 10);
        due("who HOLDS one doesn't take another", x.goes(2, 0), 1);
        due("who HELD it does", x.goes(0, 0), 0);
        due("nothing is done by it", x.count(6), 2);
        x = Check.told("line 2;thing at 0;");
        due("nobody lives there", x.goes(0, 0), -1);
        due("to the OFFICE in two DAYS", x.takes(0, 0), 2);
    }

    private static void plansOfATray() {
        DOC.says("A PLAN of a TRAY (1 to 3 numbers: 10 times a THING, and the PERSON to whom it should come;"
            + " no two alike in THING or PERSON):");
        GampLine x = Check.told("line 3;" + "thing at 0;".repeat(8) + "person at 1;".repeat(6) + "claims:1+who;");
        for (int n = 0; n <= 5; n++) {
            x.numbers(0, 2, n);
            for (int i = 0; i < n; i++) {
                x.write(0, i, 10 * (7 - i) + 5 - i);
            }
            due(n + " numbers", x.plans(0) >= 0 ? 0 : x.plans(0), n >= 1 && n <= 3 ? 0 : -4);
        }
        for (int t = 0; t < 10; t++) {
            for (int p = 0; p < 10; p++) {
                Check.fill(x, 0, 2, 10 * t + p);
                due("THING " + t + ", PERSON " + p, x.plans(0), t > 7 || p > 5 ? -3 : p == 5 ? 1 : 0);
            }
        }
        long[][] alike = {{15, 14}, {15, 25}, {15, 15}, {15, 24, 13}, {15, 24, 34}, {5, 14, 23}};
        int[] code = {-3, -3, -3, -3, -3, 0};
        for (int i = 0; i < alike.length; i++) {
            Check.fill(x, 0, 2, alike[i]);
            due("two alike", Math.min(0, x.plans(0)), code[i]);
        }
    }

    private static void plans() {
        DOC.says("STATIONS at which these are LEFT on one DAY, together, so that each comes to its own;"
            + " of all the first, number by number.");
        // Each of two people would take either thing: the lesser number of two that come on one day comes first.
        GampLine x = Check.told("line 4;thing at 3;thing at 3;thing at 3;person at 2;person at 2;person at 3;"
            + "claims:if who=0 then 2 else 1 end;");
        Check.fill(x, 0, 0, 0, 11);
        // 0 must come to 2 first: 0 from 0 with 1 from 0; 0 from 1 with 1 from 0 or 1.
        due("PLANS", x.plans(0), 3);
        due("the first: 0", x.plan(0, 0), 0);
        due("the first: 1", x.plan(0, 1), 0);
        Check.fill(x, 0, 0, 1, 10);
        // 1 must come to 2 first, on a day of its own: 0 is ahead of it on a like day.
        due("PLANS the other way round", x.plans(0), 1);
        due("number by number: 0", x.plan(0, 0), 0);
        due("number by number: 1", x.plan(0, 1), 1);
        Check.fill(x, 0, 0, 10, 1);
        due("in the TRAY's order: 1", x.plan(0, 0), 1);
        due("in the TRAY's order: 0", x.plan(0, 1), 0);
        Check.fill(x, 0, 0, 22, 11, 0);
        // 2 from 2: any of the three; from 1: 0 and 1 from 1, too; from 0: any of the three.
        due("three, together", x.plans(0), 3 + 1 + 3);
        due("who is left for the third", x.plan(0, 0), 0);
        x = Check.told("line 8;thing at 0;thing at 0;thing at 0;person at 7;person at 6;person at 5;claims:1;");
        Check.fill(x, 0, 0, 0, 11, 22);
        // 0 goes furthest, from afar; 1 must come by a day ahead of it, 2 a day ahead of 1.
        due("the first of many: 0", x.plan(0, 0), 0);
        due("the first of many: 1", x.plan(0, 1), 1);
        due("the first of many: 2", x.plan(0, 2), 2);
    }

    private static void theMatching() {
        DOC.says("THE MATCHING: THINGS given to PEOPLE, one each at most, each CLAIMED (above 0): the greatest sum of CLAIMS,");
        GampLine x = Lines.claiming(new int[][] {{9, 8}, {8, 1}});
        due("not who CLAIMS most first", x.match(0), 16);
        due("0 is given", x.match(10), 1);
        due("1 is given", x.match(11), 0);
        x = Lines.claiming(new int[][] {{5, -9}, {7, 0}, {0, -1}});
        due("those CLAIMED alone", x.match(0), 7);
        due("none", x.match(10), -1);
        due("0", x.match(11), 0);
        due("none", x.match(12), -1);
        x = Lines.claiming(new int[][] {{3, 4, 5}});
        due("one each at most", x.match(0), 5);
        due("the best of them", x.match(10), 2);
        x = Check.told("line 2;" + "thing at 0;".repeat(8) + "person at 0;".repeat(6) + "claims:(thing-who)*(thing-who);");
        // 0, 1 and 2 far to the right, 5, 4 and 3 far to the left.
        due("six of eight", x.match(0), 49 + 25 + 9 + 25 + 9 + 1);
        x = Lines.holding(new int[] {0, -1}, new int[][] {{1, 2}, {4, 1}});
        due("wherever they are now", x.match(0), 6);
        x.days(3);
        due("in the OFFICE, too", x.match(0), 6);
    }

    private static void likeMatchings() {
        DOC.says("of like ones the first by PEOPLE (the THING of less number first, none behind all).");
        GampLine x = Lines.claiming(new int[][] {{1, 1, 1}, {1, 1, 1}});
        due("less number first", x.match(10), 0);
        due("the next one", x.match(11), 1);
        x = Lines.claiming(new int[][] {{2, 1}, {2, 1}});
        due("0 has the better one", x.match(10), 0);
        due("1 the other one", x.match(11), 1);
        x = Lines.claiming(new int[][] {{3}, {3}, {3}});
        due("none behind all: 0", x.match(10), 0);
        due("none behind all: 1", x.match(11), -1);
        due("none behind all: 2", x.match(12), -1);
        x = Lines.claiming(new int[][] {{1, 3}, {2, 0}, {0, 2}});
        // 3 + 2, or 1 + 2 and 2 + ..: {1, 0} = 5, {0, -, 1} = 3, {-, 0, 1} = 4.
        due("the sum", x.match(0), 5);
        due("a greater sum is ahead of a first THING", x.match(10), 1);
        x = Lines.claiming(new int[][] {{2, 3}, {1, 2}});
        due("both ways come to 4", x.match(0), 4);
        due("the first by PERSON 0", x.match(10), 0);
        due("what is left", x.match(11), 1);
    }

    private static void pointing() {
        DOC.says("TRADE of all who HOLD one: each points to the THING it CLAIMS most of those that are HELD"
            + " (of like ones its own, else the first);");
        GampLine x = Lines.holding(new int[] {0, 1, -1}, new int[][] {{1, 2, 9}, {2, 1, 9}, {9, 9, 9}});
        due("of those that are HELD", x.trade(0), 1);
        due("the other one", x.trade(1), 0);
        due("who HOLDS none has none", x.trade(2), -1);
        x = Lines.holding(new int[] {1, 0}, new int[][] {{3, 3}, {3, 3}});
        due("of like ones its own", x.trade(0), 1);
        due("of like ones its own", x.trade(1), 0);
        x = Lines.holding(new int[] {2, 1, 0}, new int[][] {{5, 5, 1}, {9, 1, 2}, {0, 0, 7}});
        // 0 points to THING 0, which 2 HOLDS; 2 points to THING 2: a RING of both.
        due("else the first THING", x.trade(0), 0);
        due("2 has 2", x.trade(2), 2);
        due("1 is left with its own", x.trade(1), 1);
        x = Lines.holding(new int[] {0, 1}, new int[][] {{-5, -4}, {-4, -5}});
        due("most, if all are below 0", x.trade(0), 1);
    }

    private static void rings() {
        DOC.says("all in a RING (one that points to its own, too) have what they point to and are gone with it;");
        GampLine x = Check.told("line 2;" + "thing at 0;".repeat(6) + "person at 0 holds 0;person at 0 holds 1;"
            + "person at 0 holds 2;person at 0 holds 3;person at 0 holds 4;person at 0 holds 5;"
            + "claims:if thing=who+1 then 1 else if thing+who=5 and who=5 then 1 else 0 end end;");
        for (int p = 0; p < 6; p++) {
            due("a RING of six: " + p, x.trade(p), (p + 1) % 6);
        }
        due("in one ROUND", x.rounds(), 1);
        due("all of them", x.traders(), 63);
        x = Lines.holding(new int[] {0, 1}, new int[][] {{9, 1}, {9, 1}});
        due("one that points to its own", x.trade(0), 0);
        due("is gone with it", x.trade(1), 1);
        DOC.says("those left point anew, till none is left.");
        x = Lines.holding(new int[] {0, 1, 2, 3}, new int[][] {{9, 0, 0, 0}, {9, 0, 5, 0}, {9, 5, 0, 0}, {9, 8, 7, 0}});
        due("0 has its own", x.trade(0), 0);
        due("1 has 2", x.trade(1), 2);
        due("2 has 1", x.trade(2), 1);
        due("3 has its own", x.trade(3), 3);
        due("in three ROUNDS", x.rounds(), 3);
    }

    private static void rounds() {
        DOC.says("(In each ROUND all RINGS there are go.)");
        GampLine x = Lines.holding(new int[] {0, 1, 2, 3, 4}, new int[][] {{0, 1, 0, 0, 0}, {1}, {0, 0, 0, 1},
            {0, 0, 1}, {0, 0, 0, 0, 1}});
        due("three RINGS in one ROUND", x.rounds(), 1);
        due("four of them trade", x.traders(), 15);
        x = Lines.holding(new int[] {0, 1, 2}, new int[][] {{5, 0, 0}, {6, 5, 0}, {7, 6, 5}});
        due("three RINGS in three ROUNDS", x.rounds(), 3);
        due("nobody trades", x.traders(), 0);
        due("none HOLD one: no ROUND", Lines.holding(new int[] {-1, -1}, new int[][] {{1}, {1}}).rounds(), 0);
    }

    private static void order(GampLine x, int set, int... want) {
        for (int i = 0; i < want.length; i++) {
            due("openedBy(0, " + set + ", " + i + ")", x.openedBy(0, set, i), want[i]);
        }
        due("none behind them", x.openedBy(0, set, want.length), -1);
    }

    private static void opening() {
        DOC.says("OPENING of a set of THINGS by a PERSON: it opens one behind the other, dry;");
        GampLine x = Lines.opener("wet 10;opens:weight+wet*90;", 10, 3, 4, 5);
        due("dry", x.opening(0, 7), 2);
        x.days(1);
        due("dry, though it is WET", x.opening(0, 7), 2);
        due("of a set", x.opening(0, 6), 1);
        due("of another set", x.opening(0, 4), 1);
        DOC.says("at the beginning of each DAY it has BORNE 0;");
        x = Lines.opener("wet 10;opens:if borne=0 then 1 else 5 end;", 6, 0, 0, 0, 0);
        // 1 + 5 a DAY.
        due("two a DAY", x.opening(0, 15), 2);
        x = Check.told("line 2;thing at 0 weight 6;person at 0 bears 6 holds 0;");
        x.open(0);
        due("whatever it has BORNE now", x.opening(0, 1), 1);
        DOC.says("the fewest DAYS,");
        due("in four DAYS of 10", Lines.opener("wet 10;", 10, 9, 8, 7, 6, 1, 2, 3, 4).opening(0, 255), 4);
        due("in a DAY less than one by one", Lines.opener("wet 10;", 9, 5, 5, 4, 4).opening(0, 15), 2);
        due("8 DAYS", Lines.opener("wet 10;", 9, 9, 9, 9, 9, 9, 9, 9, 9).opening(0, 255), 8);
        // 0 and 1 can follow one another, but 2 must follow just one of them.
        x = Lines.opener("wet 10;opens:if thing=2 then if borne=1 then 1 else 99 end else if borne<2 then 1 else 99 end end;", 9, 0, 0, 0);
        due("a DAY may end though it could go on", x.opening(0, 7), 2);
        order(x, 7, 0, 1, 2);
    }

    private static void openingInOrder() {
        DOC.says("of like ones the first by THINGS");
        order(Lines.opener("wet 10;", 10, 4, 3, 6, 7), 15, 0, 2, 1, 3);
        order(Lines.opener("wet 10;", 10, 1, 1, 1, 1), 15, 0, 1, 2, 3);
        order(Lines.opener("wet 10;", 5, 5, 4, 1), 7, 0, 1, 2);
        order(Lines.opener("wet 10;", 5, 4, 5, 1), 7, 0, 2, 1);
        order(Lines.opener("wet 10;opens:if borne=0 then weight else 0 end;", 5, 3, 5, 1), 7, 0, 1, 2);
        order(Lines.opener("wet 10;opens:if borne>0 then 9 else weight end;", 5, 3, 5, 0), 7, 0, 2, 1);
        DOC.says("(1 DAY at least; no THINGS: 0).");
        GampLine x = Lines.opener("wet 10;opens:0;", 0, 9, 9);
        due("BURDENS of 0", x.opening(0, 3), 1);
        due("one of 0", x.opening(0, 2), 1);
        due("no THINGS", x.opening(0, 0), 0);
        order(x, 0);
    }

    private static void answers() {
        DOC.says("ANSWERS in a TRAY (1 to 16 numbers): 2 times a THING, and 1 if a PERSON CLAIMED it (above 0), else 0:"
            + " MARKS 0 to 9 by which it would so.");
        GampLine x = Check.told("line 2;thing at 0 hue 0;thing at 0 hue 9;thing at 0 weight 5;person at 0;"
            + "claims:if thing=2 then mark-weight else if mark=hue then 1 else 0 end end;");
        int[] marks = {1022, 1, 511, 512, 63, 960};
        for (int v = 0; v < 6; v++) {
            Check.fill(x, 0, 0, v);
            due("by " + v, x.marks(0, 0), marks[v]);
            for (int w = 0; w < 6; w++) {
                Check.fill(x, 0, 0, v, w);
                due("by " + v + " and " + w, x.marks(0, 0), marks[v] & marks[w]);
            }
        }
        for (int n = 0; n <= 18; n++) {
            x.numbers(0, 0, n);
            due(n + " numbers", x.marks(0, 0), n < 1 || n > 16 ? -4 : 1022);
        }
        Check.fill(x, 0, 0, 6);
        due("no such THING", x.marks(0, 0), -3);
        Check.fill(x, 0, 0, 0, 0, 0, 0, 0, 0, 0, 0, 0, 0, 0, 0, 0, 0, 0, 5);
        due("the sixteenth counts, too", x.marks(0, 0), 960);
    }

    private static void choosing() {
        DOC.says("CHOOSING: two PEOPLE by turns take one of a set of THINGS each, till none is left:");
        GampLine x = Lines.claiming(new int[][] {{1, 1, 1, 1, 1}, {0, 0, 0, 0, 0}});
        int[] first = {0, 1, 1, 2, 2, 3};
        int[] second = {0, 0, -1, -1, -2, -2};
        for (int n = 0; n <= 5; n++) {
            due("the first one takes of " + n, x.game(0, 1, (1 << n) - 1), first[n]);
            due("the second one takes of " + n, x.game(1, 0, (1 << n) - 1), second[n]);
        }
        DOC.says("as much as the first one CLAIMS those it took together, less as much as the second one CLAIMS those it took:");
        x = Lines.claiming(new int[][] {{7, 3, 2}, {7, 4, 1}});
        due("7 - 4 + 2", x.game(0, 1, 7), 5);
        due("7 - 3 + 1", x.game(1, 0, 7), 5);
        due("of some: 3 - 1", x.game(0, 1, 6), 2);
        x = Lines.claiming(new int[][] {{-5, -2}, {-3, -1}});
        due("it must take: -2 + 3", x.game(0, 1, 3), 1);
        DOC.says("the first one plays for most, the second one for least.");
        x = Lines.claiming(new int[][] {{6, 5}, {0, 9}});
        due("it takes what the other one CLAIMS", x.game(0, 1, 3), 5);
        due("that one", x.picks(0, 1, 3), 1);
        x = Lines.claiming(new int[][] {{0, 9, 8}, {6, 5, 5}});
        // The second one takes 8 away rather than 6.
        due("the second one, too", x.game(0, 1, 7), 4);
        x = Check.told("line 2;" + "thing at 0;".repeat(8) + "person at 0;person at 0;claims:(1-who*2)*999*999*9;");
        due("the most", x.game(0, 1, 255), 8000000);
        due("the least", x.game(1, 0, 255), -8000000);
    }

    private static void chance() {
        DOC.says("CHANCE: a PERSON opens the THINGS of a TRAY (1 to 10) one a DAY, in order, wet as likely as told each DAY by itself,");
        for (int wet = 0; wet <= 10; wet++) {
            GampLine x = Check.told("line 2;thing at 0;person at 0 bears 0;opens:wet;wet " + wet + ";");
            long above = 1;
            long below = 1;
            for (int n = 1; n <= 10; n++) {
                x.numbers(0, 0, n);
                above *= 10 - wet;
                below *= 10;
                long shared = java.math.BigInteger.valueOf(above).gcd(java.math.BigInteger.valueOf(below)).longValue();
                due("dry on all of " + n + " DAYS, wet " + wet, x.chance(0, 0, 0), above / shared);
                due("below", x.chance(0, 0, 1), below / shared);
            }
            x.numbers(0, 0, 11);
            due("11", x.chance(0, 0, 0), -4);
            x.numbers(0, 0, 0);
            due("none", x.chance(0, 0, 0), -4);
        }
        GampLine x = Check.told("line 2;thing at 0;thing at 0;person at 0 bears 5;opens:if thing=0 then 3 else borne+wet*9 end;"
            + "wet 5;");
        Check.fill(x, 0, 0, 1, 0);
        due("in order: 1, then 0", x.chance(0, 0, 1), 2);
        Check.fill(x, 0, 0, 0, 1);
        due("in order: 0, then 1", x.chance(0, 0, 0), 0);
    }

    private static void chanceGoesOn() {
        DOC.says("and here what it has BORNE goes on from 0 over all DAYS: how likely it can bear all, in lowest terms.");
        GampLine x = Check.told("line 2;thing at 0 weight 4;person at 0 bears 11 holds 0;person at 0 bears 12;");
        x.open(0);
        Check.fill(x, 0, 0, 0, 0, 0);
        due("12 is more than 11", x.chance(0, 0, 0), 0);
        due("0 in 1", x.chance(0, 0, 1), 1);
        due("12 is no more than 12", x.chance(0, 1, 0), 1);
        due("1 in 1", x.chance(0, 1, 1), 1);
        Check.fill(x, 0, 0, 0, 0);
        due("from 0, whatever it has BORNE now", x.chance(0, 0, 0), 1);
        x = Check.told("line 2;thing at 0;person at 0 bears 99;opens:borne+1+wet;wet 2;");
        // 1 or 2; then 2b + 1 or 2b + 2: six DAYS from 63 to 126.
        x.numbers(0, 0, 6);
        long good = 0;
        for (int weather = 0; weather < 64; weather++) {
            int borne = 0;
            long share = 1;
            for (int i = 0; i < 6; i++) {
                borne += borne + 1 + (weather >> i & 1);
                share *= (weather >> i & 1) == 1 ? 2 : 8;
            }
            good += borne <= 99 ? share : 0;
        }
        long shared = java.math.BigInteger.valueOf(good).gcd(java.math.BigInteger.valueOf(1000000)).longValue();
        due("told to the law, too", x.chance(0, 0, 0), good / shared);
        due("below", x.chance(0, 0, 1), 1000000 / shared);
    }

    private static int next(int x) {
        return 1103515245 * x + 12345;
    }

    /** A season by the calls it stands for: how many could be. */
    private static int bySingleCalls(GampLine y, int seed, int times) {
        int x = seed;
        int done = 0;
        for (int i = 0; i < times; i++) {
            x = next(x);
            int kind = (x >>> 16) % 6;
            int code = 0;
            if (kind < 2) {
                y.seed(x);
                code = y.days(1);
                x = next(x);
            } else {
                x = next(x);
                int p = (x >>> 16) % 6;
                if (kind == 2) {
                    code = y.leave(p);
                } else if (kind == 3) {
                    code = y.open(p);
                } else {
                    x = next(x);
                    code = kind == 4 ? y.fetch(p, (x >>> 16) % 8) : y.swap(p, (x >>> 16) % 6);
                }
            }
            done += code >= 0 ? 1 : 0;
        }
        y.seed(x);
        return done;
    }

    private static void seasons() {
        DOC.says("A SEASON by a SEED (x is that): so many times (1 to 40): DRAW modulo 6: 0, 1 a DAY; 2 PERSON DRAW modulo 6 LEAVES;"
            + " 3 it OPENS; 4 PERSON DRAW modulo 6 FETCHES THING DRAW modulo 8; 5 it SWAPS with PERSON DRAW modulo 6;"
            + " as in a TRAY, if it can be.");
        String line = "line 3;" + "thing at 0 weight 2;".repeat(8) + "person at 1 holds 0;person at 1 holds 1;"
            + "person at 2 holds 2;person at 2 holds 3;person at 0 holds 4;person at 0 bears 3;wet 5;claims:1;opens:weight+wet;";
        for (int i = 0; i < 200; i++) {
            int seed = i * 0x9e3779b9;
            int times = 1 + i % 40;
            GampLine x = Check.told(line);
            GampLine y = Check.told(line);
            int done = x.season(seed, times);
            due("season(" + seed + ", " + times + ")", done, bySingleCalls(y, seed, times));
            if (done > 0) {
                x.image(0);
                x.restore(0);
                y.image(0);
                y.restore(0);
                DOC.same("as by its single calls", Seen.whole(x), Seen.whole(y));
            }
        }
        GampLine x = Check.told(line);
        due("0 times", x.season(1, 0), -3);
        due("41 times", x.season(1, 41), -3);
        due("once", Math.min(x.season(1, 1), 0), 0);
        due("40 times", Math.min(x.season(1, 40), 0), 0);
        // With two people and one thing most draws tell of none such: they can't be, but are drawn.
        String small = "line 2;thing at 0;person at 1;person at 0;wet 3;";
        for (int i = 0; i < 50; i++) {
            x = Check.told(small);
            GampLine y = Check.told(small);
            int done = x.season(-i, 40);
            due("of a small line", done, bySingleCalls(y, -i, 40));
            due("DAYS", x.count(6), y.count(6));
            due("x", x.seed(0), y.seed(0));
        }
    }

    private static void trays() {
        DOC.says("TRAYS 0 to 3 are MISSING at first, or have 0 to 40 numbers of 8 bits (sort 0), 16 (1), 32 (2), 64 (3).");
        GampLine x = Check.told("line 2;thing at 0;person at 0;");
        for (int tray = 0; tray < 4; tray++) {
            due("MISSING", x.write(tray, 0, 0), -6);
            due("MISSING", x.perform(tray), -6);
            due("MISSING", x.judge(tray, 0), -6);
            due("MISSING", x.plan(tray, 0), -6);
            due("MISSING", x.plans(tray), -6);
            due("MISSING", x.marks(tray, 0), -6);
            due("MISSING", x.show(tray, 0), -6);
            due("MISSING", x.chance(tray, 0, 0), -6);
            due("MISSING", x.bearing(tray, 0, 0), -6);
            due("MISSING", x.lists(tray, 0, 0), -6);
        }
        for (int n = 0; n <= 40; n++) {
            int tray = n % 4;
            due(n + " numbers", x.numbers(tray, n / 4 % 4, n), 0);
            due("the last one", x.write(tray, n - 1, 7), n == 0 ? -7 : 7);
            due("none behind it", x.write(tray, n, 7), -7);
            due("none ahead of the first", x.write(tray, -1, 7), -7);
        }
        due("41 numbers", x.numbers(0, 0, 41), -3);
        long[] half = {1L << 7, 1L << 15, 1L << 31};
        for (int sort = 0; sort < 4; sort++) {
            x.numbers(sort, sort, 2);
            for (int k = 0; k < 3; k++) {
                due("the greatest", x.write(sort, 0, half[k] - 1), sort >= k ? half[k] - 1 : -1);
                due("one more", x.write(sort, 0, half[k]), sort > k ? half[k] : sort == k ? -half[k] : 0);
                due("the least", x.write(sort, 0, -half[k]), sort >= k ? -half[k] : 0);
                due("one less", x.write(sort, 0, -half[k] - 1), sort > k ? -half[k] - 1 : sort == k ? half[k] - 1 : -1);
            }
            due("the greatest of all", x.write(sort, 1, Long.MAX_VALUE), sort == 3 ? Long.MAX_VALUE : -1);
            due("the least of all", x.write(sort, 1, Long.MIN_VALUE), sort == 3 ? Long.MIN_VALUE : 0);
        }
    }

    private static void images() {
        DOC.says("IMAGES 0 to 1: THE LINE and what a call could bring back by UNDOING; nothing can be UNDONE behind (none at first).");
        String text = "line 6;thing at 1 hue 3 weight 4;thing at 0;person at 2 mark 3 bears 20;person at 3 holds 1;wet 10;"
            + "claims:if mark=hue then 2 else 1 end;opens:weight+wet;";
        GampLine x = Check.told(text);
        due("none at first", x.restore(0), -5);
        due("none at first", x.restore(1), -5);
        x.seed(9);
        x.days(1);
        x.open(0);
        x.mark(1, 8);
        String seen = Seen.line(x);
        due("image(0)", x.image(0), 0);
        due("the other one isn't made by it", x.restore(1), -5);
        x.days(5);
        x.leave(0);
        x.mark(0, 1);
        Check.tell(x, "line 3;thing at 2;person at 0;claims:7;");
        due("image(1)", x.image(1), 0);
        x.days(2);
        due("restore(0)", x.restore(0), 0);
        DOC.same("all of it", Seen.line(x), seen);
        due("nothing can be UNDONE", x.undo(1), -3);
        due("x", x.seed(1), next(9));
        due("what is done then can be", x.undo(1), 0);
        due("restore(1)", x.restore(1), 0);
        due("STATIONS", x.count(0), 3);
        due("THINGS", x.count(1), 1);
        due("DAY", x.count(6), 0);
        due("claims", x.claims(0, 0), 7);
        due("no law of opens", x.burden(0, 0), 0);
        x.days(1);
        due("made anew", x.image(0), 0);
        x.days(4);
        due("restore(0)", x.restore(0), 0);
        due("DAY", x.count(6), 1);
        due("restored once more", x.restore(1), 0);
        due("DAY", x.count(6), 0);
        due("image(2)", x.image(2), -2);
        due("restore(2)", x.restore(2), -2);
    }
}
