import java.util.ArrayList;
import java.util.List;
import java.util.Random;
import java.util.function.ToLongFunction;

/** No answer depends on what was asked before: an object of long use answers as one that was just told the same line. */
public final class AskedBeforeTest {
    private static final Check CHECK = new Check("AskedBeforeTest");
    private static final String[] LINES = {
        "line 8;" + "thing at 0 weight 3;".repeat(8) + "person at 7 bears 20 holds 0;person at 6 holds 1;person at 5 bears 99 holds 3;"
            + "person at 1;person at 2 bears 9;person at 3 bears 3;claims:(thing-3)*(who-2)+mark;opens:weight+if borne>2 then 4 else wet end;wet 5;",
        "line 2;", "line 2;thing at 0;", "line 2;person at 1;", "line 2;thing at 0;person at 1;",
        "line 4;thing at 0 hue 1;thing at 1;thing at 0 weight 9;person at 1 mark 1;person at 3 holds 2 bears 9;",
        "line 3;thing at 2 hue 9;thing at 0;person at 1 mark 9 holds 0 bears 50;person at 2;opens:weight-5*borne+thing+7;",
        "line 8;" + "thing at 0 weight 5;".repeat(4) + "thing at 3;".repeat(4) + "person at 4 bears 5;claims:9-thing;",
        "line 5;thing at 0 weight 1;thing at 0 weight 1;person at 1 bears 1 holds 1;person at 2 bears 2 holds 0;claims:0-1;wet 10;",
        "line 5;" + "thing at 0;".repeat(8) + "person at 2;".repeat(6) + "claims:if who=thing then 0 else 5 end;opens:who+thing;wet 3;",
    };

    public static void main(String[] args) {
        GampLine old = new GampLine();
        Random random = new Random(3);
        for (int round = 0; round < 60; round++) {
            String text = LINES[random.nextInt(LINES.length)];
            GampLine x = new GampLine();
            tell(x, text);
            tell(old, text);
            List<ToLongFunction<GampLine>> all = questions();
            java.util.Collections.shuffle(all, random);
            for (ToLongFunction<GampLine> question : all) {
                CHECK.due("a question of round " + round, question.applyAsLong(old), question.applyAsLong(x));
            }
        }
        CHECK.end();
    }

    private static void tell(GampLine x, String text) {
        if (Check.tell(x, text) < 0) {
            throw new IllegalStateException(text);
        }
        Check.fill(x, 0, 0, 0, 1, 0, 1);
        Check.fill(x, 1, 1, 10, 1);
        Check.fill(x, 2, 2, -1, 0, 10, 201, 305, 100, -1, 1);
        Check.fill(x, 3, 3);
    }

    private static List<ToLongFunction<GampLine>> questions() {
        List<ToLongFunction<GampLine>> all = new ArrayList<>();
        all.add(GampLine::matchings);
        all.add(GampLine::without);
        all.add(GampLine::rounds);
        all.add(GampLine::traders);
        all.add(GampLine::bargain);
        for (int i = 0; i < 20; i++) {
            int n = i;
            all.add(x -> x.match(n));
            all.add(x -> x.count(n));
            all.add(x -> x.judge(n % 4, n / 4));
            all.add(x -> x.chance(n % 4, n / 4 % 3, n & 1));
            all.add(x -> x.bearing(n % 4, n / 4 % 3, 5 * n));
            all.add(x -> x.marks(n % 4, n / 4));
            all.add(x -> x.show(n % 4, n / 4));
            all.add(x -> x.plan(n % 4, n / 4));
            all.add(x -> x.plans(n % 4));
            all.add(x -> x.fetches(n % 8, n & 1));
            all.add(x -> x.trade(n % 6));
        }
        for (int i = 0; i < 256; i++) {
            int set = i;
            all.add(x -> x.opening(set % 6, set));
            all.add(x -> x.openedBy(set % 5, set, set % 7));
            all.add(x -> x.inADay(set % 6, set));
            all.add(x -> x.game(set % 5, set % 6, set));
            all.add(x -> x.picks(set % 5, set % 6, set));
            all.add(x -> x.goes(set % 8, set / 8));
            all.add(x -> x.takes(set % 8, set / 8));
            all.add(x -> x.sources(set % 8, set / 8));
        }
        return all;
    }
}
