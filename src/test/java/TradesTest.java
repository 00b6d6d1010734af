/** Promises 29 to 32: what each has by trade, in how many rounds, who trades, who would bargain. */
public final class TradesTest {
    private static final Check CHECK = new Check("TradesTest");

    public static void main(String[] args) {
        aRing();
        rounds();
        likeOnes();
        refused();
        bargains();
        CHECK.end();
    }

    private static void due(String call, long got, long want) {
        CHECK.due(call, got, want);
    }

    private static void aRing() {
        // Person p claims thing p + 1 (modulo 3) most; thing t is held by person t.
        GampLine x = Check.told("line 2;thing at 0;thing at 0;thing at 0;thing at 0;person at 0 holds 0;person at 0 holds 1;"
            + "person at 0 holds 2;person at 0;claims:if thing=who+1 then 9 else if who=2 and thing=0 then 9 else 1 end end;");
        due("0 has 1", x.trade(0), 1);
        due("1 has 2", x.trade(1), 2);
        due("2 has 0", x.trade(2), 0);
        due("3 has none", x.trade(3), -1);
        due("one round", x.rounds(), 1);
        due("traders", x.traders(), 7);
        due("nothing is done", x.person(0, 3), 0);
        due("no two of them", x.bargain(), -1);
    }

    private static void rounds() {
        // All want 0's thing, then 1's, and so on: each round one goes with its own.
        GampLine x = Check.told("line 2;thing at 0;thing at 0;thing at 0;thing at 0;person at 0 holds 0;person at 0 holds 1;"
            + "person at 0 holds 2;person at 0 holds 3;claims:9-thing;");
        due("four rounds", x.rounds(), 4);
        due("no traders", x.traders(), 0);
        due("its own", x.trade(3), 3);
        // Things held by none don't count.
        x.leave(0);
        due("three rounds", x.rounds(), 3);
        due("none", x.trade(0), -1);
        due("who holds none doesn't trade", x.traders(), 0);
        // Two rings and one alone go in one round.
        x = Check.told("line 2;thing at 0 hue 1;thing at 0;thing at 0 hue 3;thing at 0 hue 2;thing at 0 hue 4;"
            + "person at 0 holds 0;person at 0 mark 1 holds 1;person at 0 mark 2 holds 2;person at 0 mark 3 holds 3;"
            + "person at 0 mark 4 holds 4;");
        due("one round for all", x.rounds(), 1);
        due("traders", x.traders(), 15);
        due("0 has 1", x.trade(0), 1);
        due("2 has 3", x.trade(2), 3);
        due("4 has its own", x.trade(4), 4);
        // 2 is left behind a ring of 0 and 1 that has what it wants.
        x = Check.told("line 2;thing at 0 hue 1;thing at 0;thing at 0 hue 5;person at 0 holds 0;person at 0 mark 1 holds 1;"
            + "person at 0 holds 2;");
        due("two rounds", x.rounds(), 2);
        due("traders", x.traders(), 3);
        due("2 keeps its own", x.trade(2), 2);
        due("without people", new GampLine().rounds(), 0);
        due("without people", new GampLine().traders(), 0);
        due("without people", new GampLine().bargain(), -1);
    }

    private static void likeOnes() {
        GampLine x = Check.told("line 2;thing at 0;thing at 0;person at 0 holds 1;person at 0 holds 0;claims:1;");
        due("its own of like ones", x.traders(), 0);
        due("one round", x.rounds(), 1);
        // 2 claims 0 and 1 alike, above its own: the first thing, not the first person.
        x = Check.told("line 2;thing at 0;thing at 0;thing at 0;person at 0 holds 1;person at 0 holds 0;person at 0 holds 2;"
            + "claims:if who=2 then if thing=2 then 0 else 5 end else if thing=2 then 7 else 0 end end;");
        due("2 has the first thing", x.trade(2), 0);
        due("1 has 2", x.trade(1), 2);
        due("0 keeps its own", x.trade(0), 1);
        due("rounds", x.rounds(), 2);
        // Below 0 there is a most, too.
        x = Check.told("line 2;thing at 0;thing at 0;person at 0 holds 0;person at 0 holds 1;"
            + "claims:if who=thing then 0-9 else 0-1 end;");
        due("below 0", x.traders(), 3);
    }

    private static void refused() {
        GampLine x = Check.told("line 2;thing at 0;person at 0 holds 0;");
        due("trade(1)", x.trade(1), -2);
        due("trade(-1)", x.trade(-1), -2);
        due("trade(0)", x.trade(0), 0);
    }

    private static void bargains() {
        GampLine x = Check.told("line 2;thing at 0;thing at 0;thing at 0;person at 0;person at 0 holds 0;person at 0 holds 1;"
            + "person at 0 holds 2;claims:if who=thing+1 then 1 else 2 end;");
        due("the least number", x.bargain(), 12);
        x.leave(1);
        due("of those who hold one", x.bargain(), 23);
        x.leave(2);
        due("none do", x.bargain(), -1);
        x = Check.told("line 2;thing at 0;thing at 0;person at 0 holds 0;person at 0 holds 1;claims:thing;");
        due("one alone would", x.bargain(), -1);
        x = Check.told("line 2;thing at 0;thing at 0;person at 0 holds 0;person at 0 holds 1;claims:1;");
        due("alike isn't more", x.bargain(), -1);
        x = Check.told("line 2;" + "thing at 0;".repeat(6) + "person at 0 holds 0;person at 0 holds 1;person at 0 holds 2;"
            + "person at 0 holds 3;person at 0 holds 4;person at 0 holds 5;"
            + "claims:if who=4 and thing=5 or who=5 and thing=4 then 1 else 0 end;");
        due("the last two", x.bargain(), 45);
    }
}
