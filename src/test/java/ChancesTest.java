/** Promises 40 and 41: how likely one bears some, a day each, and what it would have to bear. */
public final class ChancesTest {
    private static final Check CHECK = new Check("ChancesTest");

    public static void main(String[] args) {
        chances();
        bearings();
        refused();
        CHECK.end();
    }

    private static void due(String call, long got, long want) {
        CHECK.due(call, got, want);
    }

    private static void chance(GampLine x, int p, long above, long below) {
        due("above", x.chance(0, p, 0), above);
        due("below", x.chance(0, p, 1), below);
    }

    private static void chances() {
        GampLine x = Check.told("line 2;thing at 0 weight 2;person at 0 bears 5;person at 0 bears 4;person at 0 bears 3;"
            + "person at 0 bears 8;opens:weight+wet;wet 4;");
        Check.fill(x, 0, 0, 0, 0);
        // 2 or 3 each day: 4 with 36, 5 with 48, 6 with 16 of 100.
        chance(x, 0, 21, 25);
        chance(x, 1, 9, 25);
        chance(x, 2, 0, 1);
        chance(x, 3, 1, 1);
        // What is borne goes on: it is told to the law.
        x = Check.told("line 2;thing at 0;person at 0 bears 7;opens:if borne=0 then 3+wet else borne end;wet 5;");
        Check.fill(x, 0, 3, 0, 0);
        chance(x, 0, 1, 2);
        x = Check.told("line 2;thing at 0;person at 0 bears 9;opens:wet;wet 3;");
        Check.fill(x, 0, 0, 0, 0, 0, 0, 0, 0, 0, 0, 0, 0);
        // All but ten wet days: 10^10 - 3^10.
        chance(x, 0, 10000000000L - 59049, 10000000000L);
        x = Check.told("line 2;thing at 0;thing at 0 weight 9;person at 0 bears 9 mark 2;opens:weight+mark*wet;wet 10;");
        Check.fill(x, 0, 0, 1);
        chance(x, 0, 0, 1);
        x.mark(0, 0);
        chance(x, 0, 1, 1);
        Check.fill(x, 0, 0, 0, 1, 0);
        chance(x, 0, 1, 1);
        // Weather and burdens of now don't count.
        x = Check.told("line 2;thing at 0 weight 5;person at 0 bears 5 holds 0;wet 10;opens:weight*(1-wet);");
        x.open(0);
        Check.fill(x, 0, 0, 0);
        chance(x, 0, 1, 1);
    }

    private static void bearings() {
        GampLine x = Check.told("line 2;thing at 0 weight 2;person at 0 bears 0;opens:weight+wet;wet 4;");
        Check.fill(x, 0, 0, 0, 0);
        int[][] due = {{0, 0}, {1, 4}, {36, 4}, {37, 5}, {84, 5}, {85, 6}, {100, 6}};
        for (int[] d : due) {
            due("bearing " + d[0], x.bearing(0, 0, d[0]), d[1]);
        }
        x = Check.told("line 2;thing at 0;person at 0;opens:99;");
        Check.fill(x, 0, 0, 0, 0, 0, 0, 0, 0, 0, 0, 0, 0);
        due("the most there is", x.bearing(0, 0, 1), 990);
        due("0 in 100", x.bearing(0, 0, 0), 0);
        x = Check.told("line 2;thing at 0;person at 0;opens:wet*50;wet 1;");
        Check.fill(x, 0, 0, 0, 0, 0);
        // 729 of 1000 without rain, 972 with one day of rain, 999 with two.
        due("72", x.bearing(0, 0, 72), 0);
        due("73", x.bearing(0, 0, 73), 50);
        due("97", x.bearing(0, 0, 97), 50);
        due("98", x.bearing(0, 0, 98), 100);
        due("99", x.bearing(0, 0, 99), 100);
        due("100", x.bearing(0, 0, 100), 150);
    }

    private static void refused() {
        GampLine x = Check.told("line 2;thing at 0;thing at 0;person at 0;");
        due("chance(-1, 0, 0)", x.chance(-1, 0, 0), -2);
        due("chance(4, 0, 0)", x.chance(4, 0, 0), -2);
        due("chance(0, 1, 0)", x.chance(0, 1, 0), -2);
        due("chance(0, -1, 0)", x.chance(0, -1, 0), -2);
        due("chance(0, 0, 2)", x.chance(0, 0, 2), -2);
        due("chance(0, 0, -1)", x.chance(0, 0, -1), -2);
        due("missing", x.chance(0, 0, 0), -6);
        due("bearing(4, 0, 50)", x.bearing(4, 0, 50), -2);
        due("bearing(0, 1, 50)", x.bearing(0, 1, 50), -2);
        due("missing", x.bearing(0, 0, 101), -6);
        Check.fill(x, 0, 3);
        due("no numbers", x.chance(0, 0, 0), -4);
        due("no numbers", x.bearing(0, 0, -1), -4);
        x.numbers(0, 3, 11);
        due("eleven", x.chance(0, 0, 1), -4);
        due("eleven", x.bearing(0, 0, 5), -4);
        long[] wrong = {2, -1, 1L << 32, Long.MIN_VALUE};
        for (long v : wrong) {
            Check.fill(x, 0, 3, 1, v);
            due("chance of " + v, x.chance(0, 0, 0), -3);
            due("bearing of " + v, x.bearing(0, 0, 0), -3);
        }
        x.numbers(0, 3, 10);
        due("m 101", x.bearing(0, 0, 101), -3);
        due("m -1", x.bearing(0, 0, -1), -3);
        due("m 100", x.bearing(0, 0, 100), 0);
    }
}
