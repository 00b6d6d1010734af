/** Promises 36 and 37: which marks one may have by what it claimed, and what to show it next. */
public final class MarksTest {
    private static final Check CHECK = new Check("MarksTest");

    public static void main(String[] args) {
        marks();
        shown();
        refused();
        CHECK.end();
    }

    private static void due(String call, long got, long want) {
        CHECK.due(call, got, want);
    }

    private static void marks() {
        GampLine x = Check.told("line 2;thing at 0 hue 3;thing at 0 hue 9;thing at 0;person at 0 mark 5;person at 0;");
        Check.fill(x, 0, 0, 1);
        due("it claimed 0", x.marks(0, 0), 1 << 3);
        Check.fill(x, 0, 0, 0);
        due("it didn't claim 0", x.marks(0, 0), 1023 - 8);
        Check.fill(x, 0, 0, 0, 2, 4);
        due("it claimed none", x.marks(0, 1), 1023 - 8 - 512 - 1);
        Check.fill(x, 0, 0, 1, 3);
        due("it can't have claimed both", x.marks(0, 0), 0);
        Check.fill(x, 0, 0, 0, 1);
        due("both of one", x.marks(0, 0), 0);
        Check.fill(x, 0, 0, 3, 3, 3, 3, 3, 3, 3, 3, 3, 3, 3, 3, 3, 3, 3, 3);
        due("sixteen answers", x.marks(0, 0), 512);
        x = Check.told("line 2;thing at 0 weight 4;person at 0;person at 0;claims:mark-weight-who;");
        Check.fill(x, 0, 0, 1);
        due("above 0", x.marks(0, 0), 0b1111100000);
        due("by who it is", x.marks(0, 1), 0b1111000000);
        due("its own mark doesn't matter", x.mark(0, 9), 0);
        due("the same", x.marks(0, 0), 0b1111100000);
    }

    private static void shown() {
        GampLine x = Check.told("line 2;thing at 0 weight 8;thing at 0 weight 6;thing at 0 weight 4;thing at 0 weight 5;"
            + "person at 0;claims:mark-weight;");
        Check.fill(x, 0, 0, 0);
        // Marks 0 to 8: above 8 none, above 6 two, above 4 four, above 5 three.
        due("marks", x.marks(0, 0), 511);
        due("the lesser number is greatest", x.show(0, 0), 2);
        Check.fill(x, 0, 0, 0, 3);
        // Marks 7, 8: by all things both or none would: the first.
        due("marks", x.marks(0, 0), 0b110000000);
        due("the first, even if it tells nothing", x.show(0, 0), 0);
        Check.fill(x, 0, 0, 1, 0);
        due("no marks", x.show(0, 0), -1);
        x = Check.told("line 2;thing at 0;thing at 0;person at 0;claims:if thing=0 then mark-6 else 4-mark end;");
        Check.fill(x, 0, 0, 1);
        // Marks 7 to 9: one tells as much as the other.
        due("show", x.show(0, 0), 0);
        Check.fill(x, 0, 0, 0);
        // Marks 0 to 6: thing 1 is claimed by 0 to 3.
        due("yes is more than no", x.show(0, 0), 1);
    }

    private static void refused() {
        GampLine x = Check.told("line 2;thing at 0;thing at 0;person at 0;");
        due("marks(-1, 0)", x.marks(-1, 0), -2);
        due("marks(4, 0)", x.marks(4, 0), -2);
        due("marks(0, 1) ahead of -6", x.marks(0, 1), -2);
        due("marks(0, -1)", x.marks(0, -1), -2);
        due("missing", x.marks(0, 0), -6);
        due("show(-1, 0)", x.show(-1, 0), -2);
        due("show(4, 0)", x.show(4, 0), -2);
        due("show(0, 1)", x.show(0, 1), -2);
        due("show missing", x.show(0, 0), -6);
        Check.fill(x, 0, 3);
        due("no numbers", x.marks(0, 0), -4);
        due("no numbers", x.show(0, 0), -4);
        x.numbers(0, 3, 17);
        due("seventeen", x.marks(0, 0), -4);
        due("seventeen", x.show(0, 0), -4);
        long[] wrong = {4, -1, 5, 1L << 33, Long.MIN_VALUE, (1L << 32) + 1};
        for (long v : wrong) {
            Check.fill(x, 0, 3, 0, v);
            due("marks of " + v, x.marks(0, 0), -3);
            due("show of " + v, x.show(0, 0), -3);
        }
        Check.fill(x, 0, 3, 3);
        due("the last one that can be", x.marks(0, 0), 1);
        x = Check.told("line 2;person at 0;");
        Check.fill(x, 0, 3, 0);
        due("no things", x.marks(0, 0), -3);
        due("no things", x.show(0, 0), -3);
    }
}
