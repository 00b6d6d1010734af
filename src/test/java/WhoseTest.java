/** Promises 25 to 28: the matching, in how many ways all have theirs, who never has one, what things fetch. */
public final class WhoseTest {
    private static final Check CHECK = new Check("WhoseTest");

    public static void main(String[] args) {
        theMatching();
        likeOnes();
        ways();
        withoutOne();
        whatThingsFetch();
        CHECK.end();
    }

    private static void due(String call, long got, long want) {
        CHECK.due(call, got, want);
    }

    private static void theMatching() {
        // Claims: person 0: 5 4, person 1: 4 0.
        GampLine x = Check.told("line 2;thing at 0;thing at 1;person at 0;person at 0;"
            + "claims:if who+thing=0 then 5 else if who+thing=1 then 4 else 0 end end;");
        due("sum", x.match(0), 8);
        due("0 is given 1", x.match(10), 1);
        due("1 is given 0", x.match(11), 0);
        due("match(1)", x.match(1), -2);
        due("match(9)", x.match(9), -2);
        due("match(12)", x.match(12), -2);
        due("match(-1)", x.match(-1), -2);
        due("match(least)", x.match(Integer.MIN_VALUE), -2);
        due("match(MIN + 9)", x.match(Integer.MIN_VALUE + 9), -2);
        x = Check.told("line 2;thing at 0;person at 0;person at 0;claims:who+1;");
        due("one thing", x.match(0), 2);
        due("none for the first", x.match(10), -1);
        due("the second", x.match(11), 0);
        x = Check.told("line 2;thing at 0;thing at 0;person at 0;claims:0-1;");
        due("none claimed", x.match(0), 0);
        due("none given", x.match(10), -1);
        x = Check.told("line 2;thing at 0;");
        due("no people", x.match(0), 0);
        due("no such person", x.match(10), -2);
        x = Check.told("line 2;" + "thing at 0;".repeat(8) + "person at 0;".repeat(6) + "claims:999*999*2;");
        due("the greatest sum", x.match(0), 6000000);
        due("the last person", x.match(15), 5);
    }

    private static void likeOnes() {
        // All alike: the first person has the first thing.
        GampLine x = Check.told("line 2;thing at 0;thing at 0;thing at 0;person at 0;person at 0;claims:3;");
        due("0", x.match(10), 0);
        due("1", x.match(11), 1);
        // One thing claimed alike by two: the first has it, none is behind all.
        x = Check.told("line 2;thing at 0;person at 0;person at 0;claims:3;");
        due("the first has it", x.match(10), 0);
        due("the second none", x.match(11), -1);
        // 0 and 1 like thing 1 or (each) thing 0 alike.
        x = Check.told("line 2;thing at 0;thing at 0;person at 0 mark 1;person at 0 mark 1;claims:thing+mark;");
        due("sum", x.match(0), 3);
        due("first by people", x.match(10), 0);
        due("then", x.match(11), 1);
    }

    private static void ways() {
        due("8 things for 6", Check.told("line 2;" + "thing at 0;".repeat(8) + "person at 0;".repeat(6)).matchings(),
            20160);
        due("too few things", Check.told("line 2;thing at 0;person at 0;person at 0;").matchings(), 0);
        due("no people", Check.told("line 2;thing at 0;").matchings(), 1);
        due("no things", Check.told("line 2;person at 0;").matchings(), 0);
        due("no two the same", Check.told("line 2;thing at 0;thing at 0 hue 1;person at 0;person at 0 mark 1;")
            .matchings(), 1);
        due("who claims below thing", Check.told("line 2;thing at 0;thing at 0;thing at 0;person at 0;person at 0;"
            + "claims:thing-who;").matchings(), 1);
        due("claims below 0 don't count", Check.told("line 2;thing at 0;person at 0;claims:0-1;").matchings(), 0);
    }

    private static void withoutOne() {
        due("both claim the one thing", Check.told("line 2;thing at 0;person at 0;person at 0;").without(), 0);
        due("one claims none", Check.told("line 2;thing at 0;person at 0 mark 1;person at 0;").without(), 1);
        due("none claims", Check.told("line 2;thing at 0;person at 0;person at 1;claims:0;").without(), 3);
        due("no things", Check.told("line 2;" + "person at 0;".repeat(6)).without(), 63);
        due("no people", Check.told("line 2;thing at 0;").without(), 0);
        // 0 claims thing 0 alone, 1 claims both, 2 claims thing 0 alone: each of them has one in some way.
        due("each in some way", Check.told("line 2;thing at 0;thing at 0 hue 1;person at 0;person at 0 mark 1;person at 0;"
            + "claims:if hue=0 then 1 else mark end;").without(), 0);
    }

    private static void whatThingsFetch() {
        GampLine x = Check.told("line 2;thing at 0;thing at 0;thing at 0;thing at 0;person at 0 mark 4;person at 0 mark 9;"
            + "person at 0 mark 9;claims:if thing=0 then mark else if thing=1 then mark-8 else if thing=2 then who-1 "
            + "else 0-mark end end end;");
        due("who claims it most, the first", x.fetches(0, 0), 1);
        due("another one as much", x.fetches(0, 1), 9);
        due("of 1", x.fetches(1, 0), 1);
        due("another of 1", x.fetches(1, 1), 1);
        due("of 2", x.fetches(2, 0), 2);
        due("0 at least", x.fetches(2, 1), 0);
        due("nobody", x.fetches(3, 0), -1);
        due("0 without one", x.fetches(3, 1), 0);
        due("fetches(4, 0)", x.fetches(4, 0), -2);
        due("fetches(-1, 0)", x.fetches(-1, 0), -2);
        due("fetches(0, 2)", x.fetches(0, 2), -2);
        due("fetches(0, -1)", x.fetches(0, -1), -2);
        x = Check.told("line 2;thing at 0;person at 0;");
        due("one alone", x.fetches(0, 0), 0);
        due("0 without another one", x.fetches(0, 1), 0);
    }
}
