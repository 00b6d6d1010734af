/** Promises 42 to 47, trays, images, counts: a test for each of their sentences. */
public final class TrayPromisesTest {
    private static final Sentences DOC = new Sentences("TrayPromisesTest");
    private static final String LINE = "line 6;thing at 1 hue 3 weight 4;thing at 0 weight 7;thing at 4 weight 2;"
        + "person at 2 mark 3 bears 9;person at 3 holds 1;person at 0 bears 1;wet 10;claims:if mark=hue then 2 else 1 end;"
        + "opens:weight+wet;";

    public static void main(String[] args) {
        numbers();
        numbersRefused();
        write();
        writeRefused();
        lists();
        listsRefused();
        image();
        restore();
        restoreRefused();
        counts();
        countOfOthers();
        DOC.end();
    }

    private static void due(String call, long got, long want) {
        DOC.due(call, got, want);
    }

    private static void numbers() {
        DOC.promise(42);
        DOC.says("A TRAY has n numbers of a sort, all 0 (in place of another one): 0.");
        GampLine x = Check.told("line 2;thing at 0 weight 1;thing at 0 weight 9;person at 0 bears 99;");
        for (int sort = 0; sort < 4; sort++) {
            for (int n = 0; n <= 40; n++) {
                int tray = (n + sort) % 4;
                due("numbers(" + tray + ", " + sort + ", " + n + ")", x.numbers(tray, sort, n), 0);
                due("it has so many", x.write(tray, n, 0), -7);
                due("all 0", n < 1 || n > 10 ? n : x.bearing(tray, 0, 100), n);
                for (int i = 0; i < n; i++) {
                    x.write(tray, i, 1);
                }
                due("1 in each", n < 1 || n > 10 ? 9 * n : x.bearing(tray, 0, 100), 9 * n);
                due("once more", x.numbers(tray, sort, n), 0);
                due("in place of it, all 0", n < 1 || n > 10 ? n : x.bearing(tray, 0, 100), n);
            }
        }
        Check.fill(x, 0, 3, 1L << 40, 2);
        due("of another sort", x.numbers(0, 0, 3), 0);
        due("its sort", x.write(0, 2, 1L << 40), 0);
        due("longer than it was", x.write(0, 2, 5), 5);
        due("shorter", x.numbers(0, 0, 1), 0);
        due("shorter than it was", x.write(0, 1, 5), -7);
        due("the others stay", x.write(1, 0, 1), 1);
        due("no call to be UNDONE", x.count(7), 0);
    }

    private static void numbersRefused() {
        DOC.says("-2: no such TRAY, sort; -3, and the TRAY stays: n is below 0 or above 40.");
        GampLine x = Check.told("line 2;thing at 0 weight 1;thing at 0 weight 9;person at 0 bears 99;");
        Check.fill(x, 2, 1, 1, 0, 1);
        for (int n : new int[] {-1, 4, 5, Integer.MAX_VALUE, Integer.MIN_VALUE}) {
            due("no such TRAY: " + n, x.numbers(n, 0, 1), -2);
            due("no such sort: " + n, x.numbers(2, n, 1), -2);
            due("the TRAY stays", x.bearing(2, 0, 100), 19);
            due("a MISSING one stays so", x.numbers(1, n, 1) == -2 ? x.write(1, 0, 0) : 0, -6);
        }
        for (int n : new int[] {-1, 41, 42, 900, Integer.MAX_VALUE, Integer.MIN_VALUE}) {
            due("numbers(2, 0, " + n + ")", x.numbers(2, 0, n), -3);
            due("the TRAY stays", x.bearing(2, 0, 100), 19);
            due("its sort stays", x.write(2, 0, 257), 257);
            x.write(2, 0, 1);
            due("numbers(1, 0, " + n + ")", x.numbers(1, 0, n), -3);
            due("a MISSING one stays so", x.write(1, 0, 0), -6);
        }
    }

    private static void write() {
        DOC.promise(43);
        DOC.says("Number i of a TRAY is v, cut to its sort: as it is there.");
        GampLine x = Check.told("line 2;" + "thing at 0;".repeat(8) + "person at 0 bears 99;opens:thing;");
        for (int sort = 0; sort < 4; sort++) {
            x.numbers(sort, sort, 40);
        }
        long[] all = {0, 1, -1, 127, 128, -128, -129, 255, 256, 32767, 32768, -32768, -32769, 65535, 65536, 2147483647L,
            2147483648L, -2147483648L, -2147483649L, 4294967295L, 4294967296L, Long.MAX_VALUE, Long.MIN_VALUE,
            0x0123456789abcdefL, 0xfedcba9876543210L};
        for (int i = 0; i < all.length; i++) {
            due("8 bits", x.write(0, i, all[i]), (byte) all[i]);
            due("16 bits", x.write(1, i, all[i]), (short) all[i]);
            due("32 bits", x.write(2, i, all[i]), (int) all[i]);
            due("64 bits", x.write(3, i, all[i]), all[i]);
        }
        // As it is there: by what chance and deeds read.
        x.numbers(0, 0, 3);
        for (int i = 0; i < 3; i++) {
            x.write(0, i, 256 + i + 1);
        }
        due("1 + 2 + 3 stand there", x.bearing(0, 0, 100), 6);
        x.write(0, 1, -256 + 7);
        due("1 + 7 + 3 stand there", x.bearing(0, 0, 100), 11);
        x.write(0, 0, -1);
        due("255 is NONE in 8 bits", x.write(0, 0, 255), -1);
        due("a DAY", x.judge(0, 0), 1);
        x.numbers(0, 1, 1);
        x.write(0, 0, 255);
        due("255 isn't NONE in 16 bits", x.judge(0, 0), 0);
    }

    private static void writeRefused() {
        DOC.says("-2: no such TRAY; -6; -7.");
        GampLine x = new GampLine();
        x.numbers(1, 2, 0);
        x.numbers(2, 2, 3);
        x.numbers(3, 2, 40);
        for (int tray : new int[] {-1, 4, 5, Integer.MAX_VALUE, Integer.MIN_VALUE}) {
            due("write(" + tray + ", 0, 9)", x.write(tray, 0, 9), -2);
        }
        int[] size = {0, 0, 3, 40};
        for (int tray = 0; tray < 4; tray++) {
            for (int i : new int[] {-1, size[tray], size[tray] + 1, 41, Integer.MAX_VALUE, Integer.MIN_VALUE}) {
                due("write(" + tray + ", " + i + ", 9)", x.write(tray, i, 9), tray == 0 ? -6 : -7);
            }
        }
        due("the last of three", x.write(2, 2, 9), 9);
        due("the last of forty", x.write(3, 39, 9), 9);
    }

    private static void lists() {
        DOC.promise(44);
        DOC.says("THINGS of an OPENING in their order come into a TRAY, as far as it has places: how many.");
        // The order of all eight is 0 1 5 2 4 3 6 7; burdens tell which stands where.
        String line = "line 2;thing at 0 weight 9;thing at 0 weight 8;thing at 0 weight 7;thing at 0 weight 6;thing at 0 weight 5;"
            + "thing at 0 weight 4;thing at 0 weight 3;thing at 0 weight 2;person at 0 bears 12;";
        int[] order = {0, 1, 5, 2, 4, 3, 6, 7};
        for (int n = 0; n <= 10; n++) {
            for (int sort = 0; sort < 4; sort++) {
                GampLine x = Check.told(line);
                x.numbers(1, sort, n);
                for (int i = 0; i < n; i++) {
                    x.write(1, i, 7);
                }
                int fits = Math.min(n, 8);
                due(n + " places", x.lists(1, 0, 255), fits);
                int sum = 0;
                for (int i = 0; i < n; i++) {
                    sum += i < fits ? 9 - order[i] : 2;
                }
                due("what stands there", n == 0 ? 0 : x.bearing(1, 0, 100), sum);
                due("no call to be UNDONE", x.count(7), 0);
            }
        }
        GampLine x = Check.told(line);
        for (int i = 0; i < 8; i++) {
            x.numbers(2, 0, i + 1);
            x.lists(2, 0, 255);
            // The last number alone, by what is borne with it and without it.
            int with = x.bearing(2, 0, 100);
            x.numbers(2, 0, Math.max(i, 1));
            x.lists(2, 0, 255);
            due("place " + i, i == 0 ? 9 - with : 9 - (with - x.bearing(2, 0, 100)), order[i]);
        }
        x.numbers(3, 0, 40);
        due("of some", x.lists(3, 0, 0b10100000), 2);
        due("of none", x.lists(3, 0, 0), 0);
        x.numbers(3, 0, 0);
        due("no places", x.lists(3, 0, 255), 0);
        Check.fill(x, 3, 0, 300, 300);
        due("of none, the numbers stay", x.lists(3, 0, 0), 0);
        due("as they were", x.write(3, 0, 44), 44);
    }

    private static void listsRefused() {
        DOC.says("-2: the TRAY, the PERSON; -6; -3: the set; -5: it can't.");
        GampLine x = Check.told(LINE);
        Check.fill(x, 1, 1, 50, 50);
        for (int n : new int[] {-1, 4, Integer.MAX_VALUE, Integer.MIN_VALUE}) {
            due("TRAY " + n, x.lists(n, 0, 1), -2);
            due("PERSON " + n, x.lists(1, n, 1), -2);
        }
        due("PERSON 3", x.lists(1, 3, 1), -2);
        due("MISSING", x.lists(0, 0, 1), -6);
        for (int set : new int[] {-1, 8, 15, 256, Integer.MAX_VALUE, Integer.MIN_VALUE}) {
            due("the set " + set, x.lists(1, 0, set), -3);
        }
        due("it can't", x.lists(1, 2, 1), -5);
        due("one of three it can't", x.lists(1, 2, 7), -5);
        due("the TRAY stays", x.judge(1, 0) + 10 * x.judge(1, 1), 10);
        due("it can none", x.lists(1, 2, 0), 0);
    }

    private static void image() {
        DOC.promise(45);
        DOC.says("An IMAGE is made: 0.");
        GampLine x = Check.told(LINE);
        x.seed(6);
        x.days(2);
        GampLine y = Check.told(LINE);
        y.seed(6);
        y.days(2);
        due("image(0)", x.image(0), 0);
        due("image(1)", x.image(1), 0);
        due("image(1) once more", x.image(1), 0);
        y.image(0);
        y.image(1);
        DOC.same("nothing else is changed", Seen.whole(x), Seen.whole(y));
        x = Check.told(LINE);
        x.days(1);
        x.image(0);
        due("what was done can still be UNDONE", x.undo(1), 0);
        due("DAY", x.count(6), 0);
        x.restore(0);
        due("the IMAGE doesn't change by that", x.count(6), 1);
        DOC.says("-2.");
        for (int i : new int[] {-1, 2, 3, Integer.MAX_VALUE, Integer.MIN_VALUE}) {
            due("image(" + i + ")", x.image(i), -2);
        }
        due("none was made by these", x.restore(1), -5);
    }

    private static void restore() {
        DOC.promise(46);
        DOC.says("All that is in an IMAGE is as it was: 0.");
        GampLine x = Check.told(LINE);
        x.seed(6);
        x.days(1);
        x.mark(2, 8);
        x.open(1);
        x.image(0);
        String[] seen = {Seen.line(x), ""};
        Check.tell(x, "line 3;thing at 0;person at 1 mark 1 bears 2;person at 2;claims:5;");
        x.seed(-9);
        x.days(1);
        x.image(1);
        seen[1] = Seen.line(x);
        for (int i : new int[] {0, 1, 1, 0, 0}) {
            Check.fill(x, 0, 1, i, -1, 399);
            due("restore(" + i + ")", x.restore(i), 0);
            x.numbers(0, 0, 0);
            DOC.same("IMAGE " + i, Seen.line(x), seen[i]);
            due("nothing can be UNDONE", x.count(7), 0);
            x.season(i, 30);
            x.days(3);
            x.mark(0, 7);
        }
        x.restore(0);
        due("x, too", x.seed(0), 1103515245 * 6 + 12345);
        x.restore(1);
        due("x of the other one", x.seed(0), 1103515245 * -9 + 12345);
        GampLine y = new GampLine();
        y.image(0);
        Check.tell(y, LINE);
        due("a new object's", y.restore(0), 0);
        due("STATIONS", y.count(0), 2);
        due("THINGS", y.count(1), 0);
        due("PEOPLE", y.count(2), 0);
        x = Check.told(LINE);
        x.image(0);
        Check.feed(x, new byte[40]);
        Check.fill(x, 1, 0, 5);
        Check.tell(x, "line 2;?");
        Check.feed(x, new byte[20]);
        x.restore(0);
        due("THE TAPE isn't in it", x.count(8), 20);
        due("TRAYS aren't", x.write(1, 0, 5), 5);
        due("the latest FAULT isn't", x.fault(0), 1);
    }

    private static void restoreRefused() {
        DOC.says("-2; -5: none was made.");
        GampLine x = Check.told(LINE);
        for (int i : new int[] {-1, 2, 3, Integer.MAX_VALUE, Integer.MIN_VALUE}) {
            due("restore(" + i + ")", x.restore(i), -2);
        }
        x.days(1);
        due("restore(0)", x.restore(0), -5);
        due("restore(1)", x.restore(1), -5);
        due("nothing is changed", x.count(7), 1);
        x.image(1);
        due("the other one wasn't made", x.restore(0), -5);
        due("this one was", x.restore(1), 0);
        x.image(0);
        Check.tell(x, "line 2;");
        due("both were, whatever line is told", x.restore(0) + x.restore(1), 0);
    }

    private static void counts() {
        DOC.promise(47);
        DOC.says("0 STATIONS, 1 THINGS, 2 PEOPLE, 3 THINGS in the OFFICE, as bits, 4 those HELD, as bits,"
            + " 5 1 if it is WET, else 0, 6 DAY, 7 calls that can be UNDONE, 8 bytes on THE TAPE, 9 LINES.");
        GampLine x = new GampLine();
        counted(x, 2, 0, 0, 0, 0, 0, 0, 0, 0, 0);
        Check.tell(x, LINE);
        counted(x, 6, 3, 3, 0, 2, 0, 0, 0, 0, 10);
        x.days(1);
        // 0 came to 2, where person 0 took it.
        counted(x, 6, 3, 3, 0, 3, 1, 1, 1, 0, 10);
        x.leave(1);
        x.days(3);
        counted(x, 6, 3, 3, 6, 1, 1, 4, 3, 0, 10);
        Check.feed(x, new byte[41]);
        counted(x, 6, 3, 3, 6, 1, 1, 4, 3, 60, 10);
        x.fetch(1, 2);
        counted(x, 6, 3, 3, 2, 5, 1, 4, 4, 60, 10);
        x.undo(4);
        counted(x, 6, 3, 3, 0, 2, 0, 0, 0, 60, 10);
        String all = "line 8;" + "thing at 7;".repeat(8) + "person at 0;".repeat(6);
        GampLine y = Check.told(all);
        counted(y, 8, 8, 6, 0, 0, 0, 0, 0, 0, 15);
        y.days(99);
        counted(y, 8, 8, 6, 255, 0, 0, 99, 1, 0, 15);
        for (int p = 0; p < 6; p++) {
            y.fetch(p, 7 - p);
        }
        counted(y, 8, 8, 6, 3, 252, 0, 99, 7, 0, 15);
    }

    private static void counted(GampLine x, int... want) {
        for (int what = 0; what < 10; what++) {
            due("count(" + what + ")", x.count(what), want[what]);
        }
    }

    private static void countOfOthers() {
        DOC.says("NONE for others.");
        GampLine x = Check.told(LINE);
        for (int what : new int[] {-1, -2, 10, 11, 99, Integer.MAX_VALUE, Integer.MIN_VALUE}) {
            due("count(" + what + ")", x.count(what), -1);
        }
    }
}
