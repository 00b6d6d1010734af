/** Promises 38 and 39: two choose by turns. */
public final class ChoosingTest {
    private static final Check CHECK = new Check("ChoosingTest");

    public static void main(String[] args) {
        games();
        picks();
        refused();
        CHECK.end();
    }

    private static void due(String call, long got, long want) {
        CHECK.due(call, got, want);
    }

    private static void games() {
        GampLine x = Check.told("line 2;thing at 0 weight 5;thing at 0 weight 3;thing at 0 weight 2;person at 0;person at 0;"
            + "claims:weight;");
        due("5 - 3 + 2", x.game(0, 1, 7), 4);
        due("the other begins", x.game(1, 0, 7), 4);
        due("two of them", x.game(0, 1, 6), 1);
        due("one", x.game(0, 1, 4), 2);
        due("none", x.game(0, 1, 0), 0);
        // Person 0 claims 6 5; person 1 claims 0 9: 0 takes 1 away from it.
        x = Check.told("line 2;thing at 0;thing at 0;person at 0;person at 0;"
            + "claims:if who=0 then 6-thing else thing*9 end;");
        due("to leave less", x.game(0, 1, 3), 5);
        due("picks that", x.picks(0, 1, 3), 1);
        due("the other way round", x.game(1, 0, 3), 9 - 6);
        // One must take what it doesn't want.
        x = Check.told("line 2;thing at 0;person at 0;person at 0;claims:0-7;");
        due("below 0", x.game(0, 1, 1), -7);
        x = Check.told("line 2;thing at 0;thing at 0;person at 0;person at 0;claims:who*999*999*9*0-999*999*9;");
        due("far below 0, both take one", x.game(0, 1, 3), 0);
        x = Check.told("line 2;" + "thing at 0;".repeat(8) + "person at 0;person at 0;claims:(1-who*2)*999*999*9;");
        due("the most there is", x.game(0, 1, 255), 8000000);
        due("the least there is", x.game(1, 0, 255), -8000000);
    }

    private static void picks() {
        GampLine x = Check.told("line 2;thing at 0;thing at 0;thing at 0 weight 1;person at 0;person at 0;claims:weight;");
        due("the greatest", x.picks(0, 1, 7), 2);
        due("the first of like ones", x.picks(0, 1, 3), 0);
        due("the only one", x.picks(0, 1, 2), 1);
        due("none", x.picks(0, 1, 0), -1);
        due("nothing is taken", x.thing(2, 0), 0);
    }

    private static void refused() {
        GampLine x = Check.told("line 2;thing at 0;person at 0;person at 0;");
        int[][] people = {{0, 0}, {1, 1}, {0, 2}, {2, 0}, {-1, 0}, {0, -1}, {7, 7}};
        for (int[] pq : people) {
            due("game(" + pq[0] + ", " + pq[1] + ", 0)", x.game(pq[0], pq[1], 0), -99000002);
            due("picks(" + pq[0] + ", " + pq[1] + ", 0)", x.picks(pq[0], pq[1], 0), -2);
            due("people ahead of the set", x.game(pq[0], pq[1], 2), -99000002);
            due("people ahead of the set", x.picks(pq[0], pq[1], -1), -2);
        }
        int[] sets = {2, 3, -1, 256, Integer.MIN_VALUE, Integer.MAX_VALUE};
        for (int set : sets) {
            due("game(0, 1, " + set + ")", x.game(0, 1, set), -99000003);
            due("picks(0, 1, " + set + ")", x.picks(0, 1, set), -3);
        }
    }
}
