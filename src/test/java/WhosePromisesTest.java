/** Promises 20 to 32, left, whose, trades: a test for each of their sentences. */
public final class WhosePromisesTest {
    private static final Sentences DOC = new Sentences("WhosePromisesTest");

    public static void main(String[] args) {
        goes();
        takes();
        sources();
        plan();
        planRefused();
        plans();
        match();
        matchings();
        without();
        withoutByTrying();
        fetches();
        trade();
        rounds();
        traders();
        bargain();
        DOC.end();
    }

    private static void due(String call, long got, long want) {
        DOC.due(call, got, want);
    }

    private static final String LEFT = "line 8;thing at 0 hue 1;thing at 3 hue 2;thing at 7 hue 3;person at 4 mark 1;"
        + "person at 7 mark 1;person at 2 mark 2 holds 1;person at 0 mark 3;";

    private static void goes() {
        DOC.promise(20);
        DOC.says("LEFT: who takes it.");
        GampLine x = Check.told(LEFT);
        int[] who = {0, 0, 0, 0, 1, 1, 1, -1};
        for (int s = 0; s < 8; s++) {
            due("goes(0, " + s + ")", x.goes(0, s), who[s]);
            due("goes(1, " + s + ")", x.goes(1, s), s < 2 ? 2 : -1);
        }
        DOC.says("NONE: nobody does; -2: the THING, the STATION.");
        for (int s = 0; s < 8; s++) {
            due("nobody: goes(2, " + s + ")", x.goes(2, s), -1);
        }
        for (int n : new int[] {-1, 8, Integer.MAX_VALUE, Integer.MIN_VALUE}) {
            due("goes(0, " + n + ")", x.goes(0, n), -2);
            due("goes(" + n + ", 0)", x.goes(n, 0), -2);
        }
        due("goes(3, 0)", x.goes(3, 0), -2);
        x = Check.told("line 2;thing at 0;");
        due("goes(0, 2) of two STATIONS", x.goes(0, 2), -2);
        due("goes(0, 1) of two STATIONS", x.goes(0, 1), -1);
    }

    private static void takes() {
        DOC.promise(21);
        DOC.says("In how many DAYS it is taken, or in the OFFICE.");
        GampLine x = Check.told(LEFT);
        int[] days = {4, 3, 2, 1, 3, 2, 1, 1};
        for (int s = 0; s < 8; s++) {
            due("takes(0, " + s + ")", x.takes(0, s), days[s]);
            due("takes(1, " + s + ")", x.takes(1, s), s < 2 ? 2 - s : 8 - s);
            due("the OFFICE: takes(2, " + s + ")", x.takes(2, s), 8 - s);
        }
        DOC.says("-2 likewise.");
        for (int n : new int[] {-1, 8, Integer.MAX_VALUE, Integer.MIN_VALUE}) {
            due("takes(0, " + n + ")", x.takes(0, n), -2);
            due("takes(" + n + ", 0)", x.takes(n, 0), -2);
        }
        due("takes(3, 0)", x.takes(3, 0), -2);
        due("takes(0, 2) of two STATIONS", Check.told("line 2;thing at 0;").takes(0, 2), -2);
        due("of the one asked for", Check.told("line 2;thing at 0;thing at 0;person at 1 mark 1;claims:mark*thing;").takes(1, 0), 1);
    }

    private static void sources() {
        DOC.promise(22);
        DOC.says("STATIONS from which it comes to a PERSON, as bits.");
        GampLine x = Check.told(LEFT);
        due("sources(0, 0)", x.sources(0, 0), 15);
        due("sources(0, 1)", x.sources(0, 1), 112);
        due("sources(0, 2)", x.sources(0, 2), 0);
        due("sources(1, 2)", x.sources(1, 2), 3);
        due("none comes to STATION 0: sources(2, 3)", x.sources(2, 3), 0);
        for (int t = 0; t < 3; t++) {
            for (int p = 0; p < 4; p++) {
                int bits = 0;
                for (int s = 0; s < 8; s++) {
                    bits |= x.goes(t, s) == p ? 1 << s : 0;
                }
                due("as goes() tells: sources(" + t + ", " + p + ")", x.sources(t, p), bits);
            }
        }
        due("all but the last", Check.told("line 8;thing at 0;person at 7;").sources(0, 0), 127);
        DOC.says("-2: the THING, the PERSON.");
        for (int n : new int[] {-1, 8, Integer.MAX_VALUE, Integer.MIN_VALUE}) {
            due("sources(0, " + n + ")", x.sources(0, n), -2);
            due("sources(" + n + ", 0)", x.sources(n, 0), -2);
        }
        due("sources(3, 0)", x.sources(3, 0), -2);
        due("sources(0, 4)", x.sources(0, 4), -2);
    }

    private static void plan() {
        DOC.promise(23);
        DOC.says("A PLAN: the STATION of the i-th number.");
        GampLine x = Check.told("line 8;thing at 0 hue 1;thing at 0 hue 1;thing at 0 hue 1;person at 4 mark 1;person at 6 mark 1;"
            + "person at 7 mark 1;");
        long[][] numbers = {{0}, {1}, {2}, {0, 11}, {1, 10}, {11, 0}, {0, 11, 22}, {2, 11, 20}, {22, 11, 0}, {20, 1}};
        for (int i = 0; i < numbers.length; i++) {
            Check.fill(x, 0, 0, numbers[i]);
            int[] first = firstPlan(x, numbers[i]);
            for (int k = 0; k < numbers[i].length; k++) {
                due("numbers " + i + ": plan(0, " + k + ")", x.plan(0, k), first[k]);
            }
        }
        Check.fill(x, 0, 0, 1);
        due("from where person 0 is passed", x.plan(0, 0), 4);
        Check.fill(x, 0, 0, 2);
        due("from where both are passed", x.plan(0, 0), 6);
        // 1 should come to person 0, 0 to person 1: 0 from 0, 1 a day ahead of it.
        Check.fill(x, 0, 0, 1, 10);
        due("the first number", x.plan(0, 0), 0);
        due("the second number", x.plan(0, 1), 1);
    }

    /** The first plan by trying all, each thing going its way day by day. */
    private static int[] firstPlan(GampLine x, long[] numbers) {
        int stations = x.count(0);
        int all = 1;
        for (int i = 0; i < numbers.length; i++) {
            all *= stations;
        }
        for (int code = 0; code < all; code++) {
            int[] at = new int[numbers.length];
            int rest = code;
            for (int i = numbers.length - 1; i >= 0; i--) {
                at[i] = rest % stations;
                rest /= stations;
            }
            if (comesToAll(x, numbers, at.clone())) {
                return at;
            }
        }
        return null;
    }

    private static boolean comesToAll(GampLine x, long[] numbers, int[] at) {
        boolean[] holds = new boolean[6];
        int[] taker = new int[numbers.length];
        java.util.Arrays.fill(taker, -1);
        for (int day = 0; day < 9; day++) {
            for (int t = 0; t < x.count(1); t++) {
                for (int i = 0; i < numbers.length; i++) {
                    if (numbers[i] / 10 == t && taker[i] < 0) {
                        at[i]++;
                        for (int p = 0; p < x.count(2) && taker[i] < 0; p++) {
                            if (x.person(p, 0) == at[i] && !holds[p] && x.claims(p, t) > 0) {
                                taker[i] = p;
                                holds[p] = true;
                            }
                        }
                    }
                }
            }
        }
        for (int i = 0; i < numbers.length; i++) {
            if (taker[i] != numbers[i] % 10) {
                return false;
            }
        }
        return true;
    }

    private static void planRefused() {
        DOC.says("NONE: there is none; -2: the TRAY; -6; -4: not 1 to 3 numbers; -3: one is none such, two are alike; -7: no such number.");
        GampLine x = Check.told("line 3;" + "thing at 0;".repeat(4) + "person at 1;person at 2;person at 0;person at 2 mark 1;");
        Check.fill(x, 0, 3, 2);
        due("nothing comes to STATION 0", x.plan(0, 0), -1);
        Check.fill(x, 0, 3, 3);
        due("nor to who doesn't CLAIM it", x.plan(0, 0), -1);
        Check.fill(x, 0, 3, 0, 12);
        due("one of two can't", x.plan(0, 0), -1);
        due("one of two can't", x.plan(0, 1), -1);
        for (int tray : new int[] {-1, 4, Integer.MAX_VALUE, Integer.MIN_VALUE}) {
            due("plan(" + tray + ", 0)", x.plan(tray, 0), -2);
        }
        due("plan(1, 0)", x.plan(1, 0), -6);
        for (int n = 0; n <= 40; n++) {
            x.numbers(1, 1, n);
            for (int i = 0; i < n; i++) {
                x.write(1, i, 11 * (i % 4));
            }
            due(n + " numbers", x.plan(1, 0) == -4 ? 1 : 0, n < 1 || n > 3 ? 1 : 0);
        }
        long[] none = {4, 9, 40, 49, 90, 100, -1, -10, Long.MAX_VALUE, Long.MIN_VALUE, 1L << 32};
        for (long v : none) {
            Check.fill(x, 1, 3, v);
            due("none such: " + v, x.plan(1, 0), -3);
            Check.fill(x, 1, 3, 0, 11, v);
            due("the third is none such: " + v, x.plan(1, 0), -3);
        }
        long[][] alike = {{0, 0}, {0, 1}, {0, 10}, {0, 11, 1}, {0, 11, 10}, {0, 11, 21}, {0, 11, 2}, {0, 11, 12}, {0, 11, 20}};
        for (long[] two : alike) {
            Check.fill(x, 1, 3, two);
            due("two are alike", x.plan(1, 0), -3);
        }
        x = Check.told("line 3;" + "thing at 0;".repeat(8) + "person at 1;".repeat(6));
        x.numbers(1, 3, 2);
        for (int a = 0; a < 80; a++) {
            for (int b = 0; b < 80; b++) {
                x.write(1, 0, a);
                x.write(1, 1, b);
                boolean can = a % 10 < 6 && b % 10 < 6 && a / 10 != b / 10 && a % 10 != b % 10;
                due(a + " and " + b, x.plan(1, 0) == -3 ? 1 : 0, can ? 0 : 1);
            }
        }
        for (int n = 1; n <= 3; n++) {
            Check.fill(x, 1, 3, java.util.Arrays.copyOf(new long[] {0, 11, 22}, n));
            for (int i : new int[] {-1, n, 3, 40, Integer.MAX_VALUE, Integer.MIN_VALUE}) {
                due("plan(1, " + i + ") of " + n, x.plan(1, i), -7);
            }
        }
    }

    private static void plans() {
        DOC.promise(24);
        DOC.says("How many PLANS would do.");
        GampLine x = Check.told("line 8;thing at 0;thing at 0;thing at 0;person at 7;person at 7;person at 7;claims:3-who;");
        Check.fill(x, 0, 1, 0);
        due("from all but the last", x.plans(0), 7);
        Check.fill(x, 0, 1, 0, 11);
        // 0 comes first, or on a like day: 7 + 6 + .. + 1.
        due("of two", x.plans(0), 28);
        Check.fill(x, 0, 1, 10, 1);
        due("of two the other way round", x.plans(0), 21);
        Check.fill(x, 0, 1, 0, 11, 22);
        due("of three", x.plans(0), 84);
        Check.fill(x, 0, 1, 20, 11, 2);
        due("of three the other way round", x.plans(0), 35);
        Check.fill(x, 0, 1, 2);
        due("none", x.plans(0), 0);
        x.mark(0, 1);
        DOC.says("-2; -6; -4; -3 likewise.");
        for (int tray : new int[] {-1, 4, Integer.MAX_VALUE, Integer.MIN_VALUE}) {
            due("plans(" + tray + ")", x.plans(tray), -2);
        }
        due("plans(1)", x.plans(1), -6);
        Check.fill(x, 1, 1);
        due("no numbers", x.plans(1), -4);
        Check.fill(x, 1, 1, 0, 11, 22, 33);
        due("four numbers", x.plans(1), -4);
        for (long v : new long[] {30, 3, -1, 99, 1L << 40}) {
            Check.fill(x, 1, 3, v);
            due("none such: " + v, x.plans(1), -3);
        }
        Check.fill(x, 1, 1, 0, 10);
        due("alike in PERSON", x.plans(1), -3);
        Check.fill(x, 1, 1, 0, 1);
        due("alike in THING", x.plans(1), -3);
    }

    private static void match() {
        DOC.promise(25);
        DOC.says("THE MATCHING, what 0: the sum, 10 + p: what PERSON p is given (NONE).");
        GampLine x = Lines.claiming(new int[][] {{4, 0, 7}, {0, 0, 9}, {-3, 0, 0}, {0, 2, 8}});
        due("sum", x.match(0), 4 + 9 + 2);
        int[] given = {0, 2, -1, 1};
        for (int p = 0; p < 4; p++) {
            due("match(" + (10 + p) + ")", x.match(10 + p), given[p]);
        }
        x = new GampLine();
        due("without PEOPLE", x.match(0), 0);
        x = Check.told("line 2;person at 0;");
        due("without THINGS", x.match(0), 0);
        due("none is given", x.match(10), -1);
        due("0 isn't above 0", Lines.claiming(new int[][] {{0}}).match(10), -1);
        x = Lines.claiming(new int[][] {{0, 5}, {0, 0}});
        due("of two THINGS", x.match(10), 1);
        Check.tell(x, "line 2;thing at 0;person at 0;person at 0;claims:who*5;");
        due("of one THING, behind that", x.match(10), -1);
        due("of one THING, behind that", x.match(11), 0);
        due("0 isn't above 0, beside others", Lines.claiming(new int[][] {{0, 0}, {5, 0}}).match(10), -1);
        x = Check.told("line 2;" + "thing at 0;".repeat(8) + "person at 0;".repeat(6) + "claims:999*999*999;");
        due("the greatest sum there is", x.match(0), 6000000);
        for (int p = 0; p < 6; p++) {
            due("PERSON " + p, x.match(10 + p), p);
        }
        x = Check.told("line 2;" + "thing at 0;".repeat(8) + "person at 0;".repeat(6) + "claims:thing*thing;");
        for (int p = 0; p < 6; p++) {
            due("PERSON " + p + " of like sums", x.match(10 + p), p + 2);
        }
        DOC.says("-2: what (10 and a PERSON).");
        x = Lines.claiming(new int[][] {{1}, {1}});
        for (int what : new int[] {-1, 1, 2, 9, 12, 13, 16, 20, 100, Integer.MAX_VALUE, Integer.MIN_VALUE}) {
            due("match(" + what + ")", x.match(what), -2);
        }
        due("match(10) without PEOPLE", new GampLine().match(10), -2);
    }

    private static void matchings() {
        DOC.promise(26);
        DOC.says("In how many ways each PERSON can be given a THING that it CLAIMS (above 0), no two the same (1 without PEOPLE).");
        int[] ways = {1, 8, 56, 336, 1680, 6720, 20160};
        for (int people = 0; people <= 6; people++) {
            due(people + " PEOPLE, 8 THINGS", Check.told("line 2;" + "thing at 0;".repeat(8) + "person at 0;".repeat(people))
                .matchings(), ways[people]);
        }
        int[] few = {0, 0, 0, 0, 0, 0, 720, 5040, 20160};
        for (int things = 0; things <= 8; things++) {
            due("6 PEOPLE, " + things + " THINGS", Check.told("line 2;" + "thing at 0;".repeat(things) + "person at 0;".repeat(6))
                .matchings(), few[things]);
        }
        due("1 without PEOPLE", new GampLine().matchings(), 1);
        due("1 without PEOPLE, with THINGS", Check.told("line 2;thing at 0;").matchings(), 1);
        due("none CLAIMS one", Lines.claiming(new int[][] {{1, 1}, {0, -1}}).matchings(), 0);
        due("two CLAIM the same alone", Lines.claiming(new int[][] {{1, 0}, {1, 0}}).matchings(), 0);
        due("crosswise", Lines.claiming(new int[][] {{1, 1, 0}, {0, 1, 1}, {1, 0, 1}}).matchings(), 2);
        due("how much doesn't matter", Lines.claiming(new int[][] {{9, 1}, {5, 7}}).matchings(), 2);
        GampLine x = Lines.claiming(new int[][] {{1, 1}, {1, 1}});
        due("asked twice", x.matchings() + x.matchings(), 4);
        Check.tell(x, "line 2;thing at 0;person at 0;");
        due("of another line", x.matchings(), 1);
        Check.tell(x, "line 2;" + "thing at 0;".repeat(8) + "person at 0;".repeat(6) + "claims:7;");
        due("THE MATCHING of six", x.match(0), 42);
        Check.tell(x, "line 2;" + "thing at 0;".repeat(8) + "person at 0;");
        due("of one, behind that", x.matchings(), 8);
    }

    private static void without() {
        DOC.promise(27);
        DOC.says("Of all ways in which as many PEOPLE as can be are given a THING that they CLAIM (above 0):"
            + " who is given one in none of these, as bits.");
        due("each could be", Lines.claiming(new int[][] {{1}, {1}, {1}}).without(), 0);
        due("one CLAIMS none", Lines.claiming(new int[][] {{1}, {0}, {1}}).without(), 2);
        due("one CLAIMS below 0", Lines.claiming(new int[][] {{1}, {1}, {-1}}).without(), 4);
        due("none CLAIMS one", Lines.claiming(new int[][] {{0}, {0}, {0}}).without(), 7);
        due("no THINGS", Check.told("line 2;" + "person at 0;".repeat(6)).without(), 63);
        due("no PEOPLE", Check.told("line 2;thing at 0;").without(), 0);
        due("the least claimed, too", Lines.claiming(new int[][] {{9, 9}, {1, 0}, {9, 9}}).without(), 0);
    }

    /** All ways there are, on lines by chance. */
    private static void withoutByTrying() {
        java.util.Random random = new java.util.Random(27);
        for (int i = 0; i < 60; i++) {
            int[][] claims = new int[1 + random.nextInt(5)][1 + random.nextInt(4)];
            for (int[] row : claims) {
                for (int t = 0; t < row.length; t++) {
                    row[t] = random.nextInt(3) - 1;
                }
            }
            int[] found = {-1, 0, 0};
            tryAll(claims, 0, 0, 0, found);
            due("line " + i, Lines.claiming(claims).without(), (1 << claims.length) - 1 & ~found[1]);
            due("ways of line " + i, Lines.claiming(claims).matchings(), found[2]);
        }
    }

    private static void tryAll(int[][] claims, int p, int used, int served, int[] found) {
        if (p == claims.length) {
            int count = Integer.bitCount(served);
            found[2] += count == p ? 1 : 0;
            if (count > found[0]) {
                found[0] = count;
                found[1] = 0;
            }
            found[1] |= count == found[0] ? served : 0;
            return;
        }
        tryAll(claims, p + 1, used, served, found);
        for (int t = 0; t < claims[p].length; t++) {
            if ((used >> t & 1) == 0 && claims[p][t] > 0) {
                tryAll(claims, p + 1, used | 1 << t, served | 1 << p, found);
            }
        }
    }

    private static void fetches() {
        DOC.promise(28);
        DOC.says("What a THING fetches, what 0: who CLAIMS it most, above 0, the first (NONE),"
            + " 1: how much another one does most, 0 at least (0 without one).");
        GampLine x = Lines.claiming(new int[][] {{4, 0, -1, 7, 1, -5}, {9, 0, -2, 7, 0, 3}, {9, 0, -1, 5, 0, -1}});
        int[] who = {1, -1, -1, 0, 0, 1};
        int[] much = {9, 0, 0, 7, 0, 0};
        for (int t = 0; t < 6; t++) {
            due("fetches(" + t + ", 0)", x.fetches(t, 0), who[t]);
            due("fetches(" + t + ", 1)", x.fetches(t, 1), much[t]);
        }
        x = Lines.claiming(new int[][] {{4}, {9}});
        due("the second", x.fetches(0, 0), 1);
        due("another one is the first", x.fetches(0, 1), 4);
        x = Lines.claiming(new int[][] {{5}});
        due("one alone", x.fetches(0, 0), 0);
        due("without another one", x.fetches(0, 1), 0);
        x = Check.told("line 2;thing at 0;");
        due("without PEOPLE", x.fetches(0, 0), -1);
        due("without PEOPLE", x.fetches(0, 1), 0);
        x = Check.told("line 2;thing at 0;" + "person at 0;".repeat(6) + "claims:who;");
        due("the last of six", x.fetches(0, 0), 5);
        due("the one ahead of it", x.fetches(0, 1), 4);
        DOC.says("-2: the THING, what.");
        for (int n : new int[] {-1, 2, 8, Integer.MAX_VALUE, Integer.MIN_VALUE}) {
            due("fetches(0, " + n + ")", x.fetches(0, n), -2);
            due("fetches(" + n + ", 0)", x.fetches(n, 0), -2);
        }
        due("fetches(1, 0)", x.fetches(1, 0), -2);
        due("without THINGS", new GampLine().fetches(0, 0), -2);
    }

    private static void trade() {
        DOC.promise(29);
        DOC.says("TRADE: the THING a PERSON has then.");
        GampLine x = Lines.holding(new int[] {3, -1, 0, 1}, new int[][] {{5, 0, 0, 0}, {9, 9, 9, 9}, {0, 5, 0, 0}, {0, 0, 9, 5}});
        due("trade(0)", x.trade(0), 0);
        due("trade(2)", x.trade(2), 1);
        due("trade(3): 2 isn't HELD", x.trade(3), 3);
        due("nothing is done", x.person(0, 3), 3);
        due("no call", x.count(7), 0);
        for (int last = 0; last < 6; last++) {
            // All but one keep their own; that one wants another one's, and is left with its own.
            GampLine y = sixHolders("if who=" + last + " then if thing=who then 1 else 2 end else if thing=who then 9 else 0 end end");
            due("the one left, " + last, y.trade(last), last);
            due("in two ROUNDS", y.rounds(), 2);
            due("nobody trades", y.traders(), 0);
        }
        DOC.says("NONE: it HOLDS none; -2.");
        due("trade(1)", x.trade(1), -1);
        for (int p : new int[] {-1, 4, 6, Integer.MAX_VALUE, Integer.MIN_VALUE}) {
            due("trade(" + p + ")", x.trade(p), -2);
        }
        x.leave(0);
        due("it left it", x.trade(0), -1);
        due("3 points to its own of like ones then", x.trade(3), 1);
        due("2 is left with its own", x.trade(2), 0);
    }

    private static GampLine sixHolders(String claims) {
        StringBuilder s = new StringBuilder("line 2;" + "thing at 0;".repeat(8));
        for (int p = 0; p < 6; p++) {
            s.append("person at 0 holds ").append(p).append(';');
        }
        return Check.told(s + "claims:" + claims + ";");
    }

    private static void rounds() {
        DOC.promise(30);
        DOC.says("How many ROUNDS it takes.");
        due("six, one by one", sixHolders("9-thing").rounds(), 6);
        due("six at once", sixHolders("1").rounds(), 1);
        due("three RINGS, one by one", sixHolders("if who=thing then 0 else 9-thing end").rounds(), 3);
        due("three RINGS at once",
            sixHolders("if who+thing=5 then 1 else 0 end").rounds(), 1);
        GampLine x = sixHolders("9-thing");
        for (int p = 0; p < 6; p++) {
            x.leave(p);
            due("those who HOLD one alone", x.rounds(), 5 - p);
        }
        due("without PEOPLE", new GampLine().rounds(), 0);
        due("without holders", Lines.claiming(new int[][] {{1}}).rounds(), 0);
    }

    private static void traders() {
        DOC.promise(31);
        DOC.says("Who has another THING by TRADE than it HOLDS, as bits.");
        due("none", sixHolders("9-thing").traders(), 0);
        due("all", sixHolders("if who+thing=5 then 1 else 0 end").traders(), 63);
        due("all but two", sixHolders("if who=thing then if who<4 then 0 else 99 end else 9-thing end").traders(), 15);
        GampLine x = sixHolders("if who+thing=5 then 1 else 0 end");
        x.leave(0);
        due("5 keeps its own then", x.traders(), 30);
        due("without PEOPLE", new GampLine().traders(), 0);
        due("who HOLDS none", Lines.claiming(new int[][] {{1}, {1}}).traders(), 0);
        for (int p = 0; p < 6; p++) {
            due("as trade() tells", x.traders() >> p & 1, x.trade(p) != x.person(p, 3) ? 1 : 0);
        }
    }

    private static void bargain() {
        DOC.promise(32);
        DOC.says("Two who HOLD one each and each of whom CLAIMS the other one's more than its own"
            + " (10 times the first, and the second; the least number).");
        for (int a = 0; a < 6; a++) {
            for (int b = a + 1; b < 6; b++) {
                GampLine x = sixHolders("if who=" + a + " and thing=" + b + " or who=" + b + " and thing=" + a + " then 1 else 0 end");
                due(a + " and " + b, x.bargain(), 10 * a + b);
                x.leave(a);
                due("the first HOLDS none", x.bargain(), -1);
                x.undo(1);
                x.leave(b);
                due("the second HOLDS none", x.bargain(), -1);
                x = sixHolders("if who=" + a + " and thing=" + b + " then 1 else 0 end");
                due("one alone would: " + a, x.bargain(), -1);
                x = sixHolders("if who=" + b + " and thing=" + a + " then 1 else 0 end");
                due("one alone would: " + b, x.bargain(), -1);
            }
        }
        due("the least of all", sixHolders("if who=thing then 0 else 1 end").bargain(), 1);
        due("the second HOLDS THING 0", Lines.holding(new int[] {1, 0}, new int[][] {{2, 1}, {1, 2}}).bargain(), 1);
        due("one who HOLDS none would like to", Lines.holding(new int[] {-1, 0}, new int[][] {{5}, {-5}}).bargain(), -1);
        due("one who HOLDS none would like to", Lines.holding(new int[] {0, -1}, new int[][] {{-5}, {5}}).bargain(), -1);
        due("the least of two", sixHolders("if who+thing=5 then 1 else 0 end").bargain(), 5);
        due("below 0", Lines.holding(new int[] {0, 1}, new int[][] {{-2, -1}, {-1, -2}}).bargain(), 1);
        DOC.says("NONE: none do.");
        due("alike isn't more", sixHolders("1").bargain(), -1);
        due("all the same one", sixHolders("thing").bargain(), -1);
        due("without holders", Lines.claiming(new int[][] {{1, 2}, {2, 1}}).bargain(), -1);
        due("without PEOPLE", new GampLine().bargain(), -1);
    }
}
