/** Promises 20 to 24: who takes a thing left somewhere, when, from where, and plans for up to three. */
public final class LeftTest {
    private static final Check CHECK = new Check("LeftTest");

    public static void main(String[] args) {
        goesAndTakes();
        whatElseIsNow();
        sources();
        refusedPlans();
        plans();
        plansTogether();
        CHECK.end();
    }

    private static void due(String call, long got, long want) {
        CHECK.due(call, got, want);
    }

    private static void goesAndTakes() {
        GampLine x = Check.told("line 5;thing at 0 hue 1;thing at 0 hue 2;person at 2 mark 1;person at 4 mark 1;"
            + "person at 3 mark 2 holds 1;");
        int[] who = {0, 0, 1, 1, -1};
        int[] days = {2, 1, 2, 1, 1};
        for (int s = 0; s < 5; s++) {
            due("goes(0, " + s + ")", x.goes(0, s), who[s]);
            due("takes(0, " + s + ")", x.takes(0, s), days[s]);
        }
        due("its holder holds none", x.goes(1, 1), 2);
        due("takes(1, 1)", x.takes(1, 1), 2);
        due("goes(1, 3)", x.goes(1, 3), -1);
        due("takes(1, 3): the office", x.takes(1, 3), 2);
        due("goes(2, 0)", x.goes(2, 0), -2);
        due("goes(-1, 0)", x.goes(-1, 0), -2);
        due("goes(0, 5)", x.goes(0, 5), -2);
        due("goes(0, -1)", x.goes(0, -1), -2);
        due("takes(2, 0)", x.takes(2, 0), -2);
        due("takes(0, 5)", x.takes(0, 5), -2);
        due("takes(0, -1)", x.takes(0, -1), -2);
        due("takes(-1, 0)", x.takes(-1, 0), -2);
        due("no day went by", x.count(6), 0);
        due("nothing was left", x.thing(0, 0), 0);
    }

    private static void whatElseIsNow() {
        String line = "line 4;thing at 1 hue 1;thing at 0 hue 1;thing at 3;person at 2 mark 1;person at 2 mark 1 holds 2;"
            + "person at 2 mark 1;claims:if mark=hue then who+1 else 0 end;";
        GampLine x = Check.told(line);
        // 0 would come to person 2 on the next day, but no other things are on racks.
        due("no others on racks", x.goes(1, 1), 2);
        x.days(1);
        due("0 is held by 2 now", x.thing(0, 0), 12);
        due("who holds another one doesn't take", x.goes(1, 1), 0);
        due("its own holder does", x.goes(0, 0), 2);
        x.mark(2, 0);
        due("marks as now", x.goes(0, 0), 0);
        x.leave(1);
        x.days(3);
        due("office", x.thing(2, 0), 99);
        due("from the office, too", x.goes(2, 2), -1);
        x.mark(1, 0);
        due("1 took thing 1", x.goes(2, 1), -1);
        x.mark(0, 0);
        due("hue 0, mark 0", x.goes(2, 1), 0);
        due("in two days", x.takes(2, 0), 2);
    }

    private static void sources() {
        GampLine x = Check.told("line 8;thing at 0 hue 1;person at 4 mark 1;person at 7 mark 1;person at 0 mark 1;"
            + "person at 4 mark 1;");
        due("sources(0, 0)", x.sources(0, 0), 15);
        due("sources(0, 1)", x.sources(0, 1), 112);
        due("sources(0, 2): at station 0", x.sources(0, 2), 0);
        due("sources(0, 3): behind 0", x.sources(0, 3), 0);
        due("sources(1, 0)", x.sources(1, 0), -2);
        due("sources(0, 4)", x.sources(0, 4), -2);
        due("sources(-1, 0)", x.sources(-1, 0), -2);
        due("sources(0, -1)", x.sources(0, -1), -2);
    }

    private static void refusedPlans() {
        GampLine x = Check.told("line 3;thing at 0;thing at 0;thing at 0;thing at 0;person at 1;person at 1;person at 2;"
            + "person at 2;");
        due("plan(-1, 0)", x.plan(-1, 0), -2);
        due("plan(4, 0)", x.plan(4, 0), -2);
        due("plans(4)", x.plans(4), -2);
        due("plans(-1)", x.plans(-1), -2);
        due("plan(0, 0)", x.plan(0, 0), -6);
        due("plans(0)", x.plans(0), -6);
        Check.fill(x, 0, 1);
        due("no numbers", x.plan(0, 0), -4);
        due("no numbers", x.plans(0), -4);
        Check.fill(x, 0, 1, 0, 11, 22, 33);
        due("four numbers", x.plan(0, 0), -4);
        due("four numbers", x.plans(0), -4);
        long[][] wrong = {{40}, {4}, {-1}, {9}, {100}, {0, 1}, {0, 10}, {0, 11, 20}, {0, 11, 11}, {-10}, {1L << 40},
            {Long.MIN_VALUE}};
        for (long[] numbers : wrong) {
            Check.fill(x, 0, 3, numbers);
            due("plan of a wrong number", x.plan(0, 0), -3);
            due("-3 ahead of -7", x.plan(0, 9), -3);
            due("plans of a wrong number", x.plans(0), -3);
        }
        Check.fill(x, 0, 1, 0, 11);
        due("plan(0, 2)", x.plan(0, 2), -7);
        due("plan(0, -1)", x.plan(0, -1), -7);
        Check.fill(x, 1, 1, 30);
        x.mark(0, 5);
        due("-7 ahead of NONE", x.plan(1, 1), -7);
        due("no plan", x.plan(1, 0), -1);
        due("no plans", x.plans(1), 0);
    }

    private static void plans() {
        GampLine x = Check.told("line 6;thing at 0 hue 1;thing at 0 hue 2;thing at 0 hue 3;person at 3 mark 1;"
            + "person at 5 mark 2;person at 4 mark 3;");
        Check.fill(x, 0, 0, 0);
        due("plan of one", x.plan(0, 0), 0);
        due("plans of one", x.plans(0), 3);
        Check.fill(x, 0, 0, 11, 22, 0);
        due("plan of three, 0", x.plan(0, 0), 0);
        due("plan of three, 2", x.plan(0, 2), 0);
        due("plans of three", x.plans(0), 5 * 4 * 3);
        Check.fill(x, 0, 0, 1);
        due("never to who doesn't claim it", x.plans(0), 0);
    }

    private static void plansTogether() {
        // Both people claim both things; who is nearer takes the first to come by.
        GampLine x = Check.told("line 4;thing at 0;thing at 0;person at 1;person at 3;");
        Check.fill(x, 0, 0, 1, 10);
        // 0 should come to person 1 at 3, 1 to person 0 at 1: 0 must not pass 1 before 1 is there.
        // From station 1 or 2, 0 comes to person 1; from 0 person 0 takes it, being the thing of less number.
        due("plan", x.plan(0, 0), 1);
        due("plan of the other one", x.plan(0, 1), 0);
        due("plans", x.plans(0), 2);
        Check.fill(x, 0, 0, 0, 11);
        due("first to the nearer one", x.plan(0, 0), 0);
        due("the other goes by it", x.plan(0, 1), 0);
        due("plans the other way round", x.plans(0), 3);
        // The order in the tray doesn't change who comes first, but which plan is the first.
        Check.fill(x, 0, 0, 11, 0);
        due("plan by the tray's order", x.plan(0, 0), 0);
        due("plans by the tray's order", x.plans(0), 3);
        // The holders of both hold none, others do.
        x = Check.told("line 4;thing at 0;thing at 0;thing at 0;person at 1 holds 0;person at 2 holds 1;person at 2 holds 2;");
        Check.fill(x, 0, 0, 0, 11);
        due("holders of those left hold none", x.plans(0), 2);
        due("first plan", x.plan(0, 1), 0);
        Check.fill(x, 0, 0, 2);
        due("another one holds its own", x.plans(0), 0);
    }
}
