/** Promises 42, 43, 45 to 47: trays and their sorts, images, counts. */
public final class TraysTest {
    private static final Check CHECK = new Check("TraysTest");

    public static void main(String[] args) {
        trays();
        sorts();
        images();
        imagesHoldTheLine();
        counts();
        CHECK.end();
    }

    private static void due(String call, long got, long want) {
        CHECK.due(call, got, want);
    }

    private static void trays() {
        GampLine x = new GampLine();
        due("numbers(-1, 0, 0)", x.numbers(-1, 0, 0), -2);
        due("numbers(4, 0, 0)", x.numbers(4, 0, 0), -2);
        due("numbers(0, 4, 0)", x.numbers(0, 4, 0), -2);
        due("numbers(0, -1, 41)", x.numbers(0, -1, 41), -2);
        due("numbers(0, 0, 41)", x.numbers(0, 0, 41), -3);
        due("numbers(0, 0, -1)", x.numbers(0, 0, -1), -3);
        due("still missing", x.write(0, 0, 0), -6);
        due("write(-1, 0, 0)", x.write(-1, 0, 0), -2);
        due("write(4, 0, 0)", x.write(4, 0, 0), -2);
        due("numbers(0, 0, 0)", x.numbers(0, 0, 0), 0);
        due("it has none", x.write(0, 0, 0), -7);
        due("numbers(3, 3, 40)", x.numbers(3, 3, 40), 0);
        due("write(3, 39, 8)", x.write(3, 39, 8), 8);
        due("write(3, 40, 8)", x.write(3, 40, 8), -7);
        due("write(3, -1, 8)", x.write(3, -1, 8), -7);
        x = Check.told("line 2;thing at 0 weight 1;thing at 0 weight 2;person at 0;");
        Check.fill(x, 1, 2, 1, 1);
        due("two of 1", x.bearing(1, 0, 100), 4);
        due("it stays", x.numbers(1, 2, 99), -3);
        due("as it was", x.bearing(1, 0, 100), 4);
        due("it stays", x.numbers(1, 9, 1), -2);
        due("as it was", x.bearing(1, 0, 100), 4);
        due("anew", x.numbers(1, 0, 2), 0);
        due("all 0", x.bearing(1, 0, 100), 2);
        due("another tray", x.write(2, 0, 1), -6);
        due("nothing can be undone by it", x.count(7), 0);
        Check.tell(x, "line 2;thing at 0 weight 7;person at 0;");
        due("trays stay with another line", x.bearing(1, 0, 100), 14);
    }

    private static void sorts() {
        GampLine x = new GampLine();
        for (int sort = 0; sort < 4; sort++) {
            x.numbers(sort, sort, 1);
        }
        long[] all = {0, 1, -1, 127, 128, 255, 256, -128, -129, 32767, 32768, 65535, -32769, 2147483647L, 2147483648L,
            -2147483649L, 4294967295L, Long.MAX_VALUE, Long.MIN_VALUE, 0x123456789abcdef0L};
        for (long v : all) {
            due("8 bits of " + v, x.write(0, 0, v), (byte) v);
            due("16 bits of " + v, x.write(1, 0, v), (short) v);
            due("32 bits of " + v, x.write(2, 0, v), (int) v);
            due("64 bits of " + v, x.write(3, 0, v), v);
        }
        x = Check.told("line 2;thing at 0;person at 0;");
        Check.fill(x, 0, 0, 256);
        due("cut to 0", x.bearing(0, 0, 0), 0);
        Check.fill(x, 0, 1, 256);
        due("not cut", x.bearing(0, 0, 0), -3);
    }

    private static void images() {
        GampLine x = Check.told("line 4;thing at 0 weight 2;thing at 1;person at 2 mark 3 holds 0;wet 10;");
        due("restore(0)", x.restore(0), -5);
        due("restore(1)", x.restore(1), -5);
        due("restore(2)", x.restore(2), -2);
        due("restore(-1)", x.restore(-1), -2);
        due("image(2)", x.image(2), -2);
        due("image(-1)", x.image(-1), -2);
        x.seed(17);
        x.days(1);
        x.open(0);
        x.mark(0, 6);
        due("image(1)", x.image(1), 0);
        due("it can still be undone", x.count(7), 4);
        due("no other one", x.restore(0), -5);
        int seeded = x.seed(5);
        x.undo(1);
        x.leave(0);
        x.days(3);
        x.mark(0, 1);
        Check.fill(x, 0, 0, 7);
        Check.feed(x, new byte[20]);
        due("restore(1)", x.restore(1), 0);
        due("nothing can be undone", x.count(7), 0);
        due("undo(1)", x.undo(1), -3);
        due("held", x.thing(0, 0), 10);
        due("on its rack", x.thing(1, 0), 2);
        due("opened", x.thing(0, 3), 1);
        due("borne", x.person(0, 4), 2);
        due("mark", x.person(0, 1), 6);
        due("wet", x.count(5), 1);
        due("day", x.count(6), 1);
        due("x", x.seed(0), seeded);
        due("trays aren't in it", x.write(0, 0, 1), 1);
        due("the tape isn't in it", x.count(8), 20);
        x.leave(0);
        due("restored again", x.restore(1), 0);
        due("as it was", x.thing(0, 0), 10);
    }

    private static void imagesHoldTheLine() {
        GampLine x = Check.told("line 4;thing at 3 hue 4 weight 5;person at 2 mark 3 bears 44;claims:77;opens:66;wet 10;");
        x.image(0);
        Check.tell(x, "line 8;thing at 1;thing at 1;person at 7;person at 1;claims:1;");
        x.image(1);
        Check.tell(x, "line 2;?");
        due("a fault", x.fault(0), 1);
        due("restore(0)", x.restore(0), 0);
        due("stations", x.count(0), 4);
        due("things", x.count(1), 1);
        due("people", x.count(2), 1);
        due("lines", x.count(9), 6);
        due("where", x.thing(0, 0), 3);
        due("hue", x.thing(0, 1), 4);
        due("weight", x.thing(0, 2), 5);
        due("station", x.person(0, 0), 2);
        due("mark", x.person(0, 1), 3);
        due("bears", x.person(0, 2), 44);
        due("claims", x.claims(0, 0), 77);
        due("burden", x.burden(0, 0), 66);
        x.days(1);
        due("wet", x.count(5), 1);
        due("the fault stays", x.fault(0), 1);
        due("restore(1)", x.restore(1), 0);
        due("stations", x.count(0), 8);
        due("things", x.count(1), 2);
        due("claims", x.claims(1, 1), 1);
        due("burden", x.burden(1, 1), 0);
        x.days(1);
        due("dry", x.count(5), 0);
        GampLine y = new GampLine();
        y.image(0);
        Check.tell(y, "line 5;thing at 0;");
        y.restore(0);
        due("2 stations", y.count(0), 2);
        due("no things", y.count(1), 0);
        due("no lines", y.count(9), 0);
    }

    private static void counts() {
        GampLine x = Check.told("line 5;thing at 4;thing at 0;thing at 4;thing at 1;person at 1 mark 1 holds 3;person at 2;wet 10;");
        x.days(2);
        Check.feed(x, new byte[33]);
        int[] want = {5, 4, 2, 5, 10, 1, 2, 1, 40, 8};
        for (int what = 0; what < 10; what++) {
            due("count(" + what + ")", x.count(what), want[what]);
        }
        due("count(10)", x.count(10), -1);
        due("count(-1)", x.count(-1), -1);
    }
}
