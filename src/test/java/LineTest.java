/** Promises 1 to 8: a new object, the tape, the text of a line and its faults, things, people, the two laws. */
public final class LineTest {
    private static final Check CHECK = new Check("LineTest");

    public static void main(String[] args) {
        newObject();
        tape();
        lineIsTold();
        laterWordsStrike();
        faultOne();
        faultTwo();
        faultThree();
        faultFour();
        firstFaultCounts();
        faultLeavesAll();
        thingsAndPeople();
        lawOfClaims();
        lawOfOpens();
        truths();
        CHECK.end();
    }

    private static void due(String call, long got, long want) {
        CHECK.due(call, got, want);
    }

    private static void newObject() {
        GampLine x = new GampLine();
        long[] counts = {2, 0, 0, 0, 0, 0, 0, 0, 0, 0};
        for (int what = 0; what < 10; what++) {
            due("new count(" + what + ")", x.count(what), counts[what]);
        }
        due("new fault(0)", x.fault(0), 0);
        due("new fault(1)", x.fault(1), -1);
        due("new thing", x.thing(0, 0), -2);
        due("new person", x.person(0, 0), -2);
        due("new claims", x.claims(0, 0), -99000002);
        due("new burden", x.burden(0, 0), -2);
        due("new days", x.days(3), 0);
        due("NONE", GampLine.NONE, -1);
    }

    private static void tape() {
        GampLine x = new GampLine();
        for (int i = 1; i <= 45; i++) {
            due("feed " + i, x.feed(0x6c696e65, 0x20323b20, 0x20202020, 0x20202020, 0x20202020), 20 * i);
        }
        due("feed beyond 900", x.feed(0, 0, 0, 0, 0), -5);
        due("tape stays", x.count(8), 900);
        due("line(-1)", x.line(-1), -3);
        due("line(901)", x.line(901), -3);
        due("tape stays at -3", x.count(8), 900);
        due("fault stays at -3", x.fault(1), -1);
        due("line(20)", x.line(20), 1);
        due("tape is empty then", x.count(8), 0);
        due("line(1)", x.line(1), -3);
        due("line(0)", x.line(0), -32);
        due("line(0) at", x.fault(1), 0);
        due("big bytes", x.feed(-1, 0, 0, 0, 0), 20);
        due("a byte of 255", x.line(20), -31);
        due("at", x.fault(1), 0);
        // The highest byte first.
        x.feed(0x206c696e, 0x65203262, 0, 0, 0);
        due("bytes in order", x.line(8), -32);
        due("bytes in order at", x.fault(1), 7);
    }

    private static void lineIsTold() {
        GampLine x = new GampLine();
        due("lines", Check.tell(x, "line 3; thing at 2 hue 4 weight 5; person at 1 mark 4 holds 0 bears 7; wet 3;"), 4);
        due("fault", x.fault(0), 0);
        due("fault place", x.fault(1), -1);
        due("fault(2)", x.fault(2), -1);
        due("fault(-1)", x.fault(-1), -1);
        due("stations", x.count(0), 3);
        due("things", x.count(1), 1);
        due("people", x.count(2), 1);
        due("lines", x.count(9), 4);
        due("tokens without blanks", Check.tell(x, "line2;thing at1hue3weight 2;person at0holds0mark9;\n\n  wet10;  \n"), 4);
        due("hue", x.thing(0, 1), 3);
        due("zeros ahead", Check.tell(x, "line 008;wet 000;"), 2);
        due("8 stations", x.count(0), 8);
        x.seed(5);
        x.days(3);
        due("undoable", x.count(7), 2);
        due("anew", Check.tell(x, "line 2;"), 1);
        due("nothing to undo", x.count(7), 0);
        due("day 0", x.count(6), 0);
        due("x 0", x.seed(9), 0);
    }

    private static void laterWordsStrike() {
        GampLine x = Check.told("line 2;thing at 0 hue 1 hue 2 weight 3 weight 4;thing at 1;"
            + "person at 0 mark 3 mark 4 bears 5 bears 6 holds 0 holds 1;person at 1 holds 0;"
            + "wet 10;wet 0;claims:1;claims:2;opens:3;opens:4;");
        due("hue", x.thing(0, 1), 2);
        due("weight", x.thing(0, 2), 4);
        due("mark", x.person(0, 1), 4);
        due("bears", x.person(0, 2), 6);
        due("holds", x.person(0, 3), 1);
        due("holds the one let go", x.person(1, 3), 0);
        due("claims", x.claims(0, 0), 2);
        due("burden", x.burden(0, 0), 4);
        x.days(1);
        due("dry", x.count(5), 0);
        x = Check.told("line 2;thing at 1;thing at 0;person at 0 holds 0 holds 1;");
        due("on its rack again", x.thing(0, 0), 1);
    }

    private static void fault(String text, int kind, int place) {
        GampLine x = new GampLine();
        due("line \"" + text + "\"", Check.tell(x, text), -30 - kind);
        due("fault(0) of \"" + text + "\"", x.fault(0), kind);
        due("fault(1) of \"" + text + "\"", x.fault(1), place);
    }

    private static void faultOne() {
        fault("line 2;?", 1, 7);
        fault("?line 2;", 1, 0);
        fault("Line 2;", 1, 0);
        fault("line 2000;", 1, 5);
        fault("line 0002;", 1, 5);
        fault("line 2; 12345", 1, 8);
        fault("line 2;\twet 0;", 1, 7);
        fault("line 2;\rwet 0;", 1, 7);
        fault("line 2,", 1, 6);
        fault("line 2;claims:1/2;", 1, 15);
        fault("line 2;claims:1.;", 1, 15);
        fault("line \u00e9;", 1, 5);
        fault("line 2;\u0000", 1, 7);
    }

    private static void faultTwo() {
        fault("", 2, 0);
        fault("  ", 2, 2);
        fault("line", 2, 4);
        fault("line 2", 2, 6);
        fault("line 2  ", 2, 8);
        fault("lines 2;", 2, 0);
        fault("lin 2;", 2, 0);
        fault("thing at 0;", 2, 0);
        fault("line 2;line 2;", 2, 7);
        fault("line 2;;", 2, 7);
        fault("line;", 2, 4);
        fault("line 2 thing at 0;", 2, 7);
        fault("line 2;thing 0;", 2, 13);
        fault("line 2;thing at;", 2, 15);
        fault("line 2;thing at 0 mark 1;", 2, 18);
        fault("line 2;thing at 0 hue;", 2, 21);
        fault("line 2;thing at 0", 2, 17);
        fault("line 2;person at 0 hue 1;", 2, 19);
        fault("line 2;person at 0 holds;", 2, 24);
        fault("line 2;person at 0 holds", 2, 24);
        fault("line 2;person at 0 mark at", 2, 24);
        fault("line 2;wet;", 2, 10);
        fault("line 2;foo 3;", 2, 7);
        fault("line 2;5;", 2, 7);
        fault("line 2;claims 1;", 2, 14);
        fault("line 2;claims:;", 2, 14);
        fault("line 2;claims:wet;", 2, 14);
        fault("line 2;claims:1+borne;", 2, 16);
        fault("line 2;opens:wet;claims:wet;", 2, 24);
        fault("line 2;claims:-1;", 2, 14);
        fault("line 2;claims:1+;", 2, 16);
        fault("line 2;claims:1 2;", 2, 16);
        fault("line 2;claims:(1;", 2, 16);
        fault("line 2;claims:1);", 2, 15);
        fault("line 2;claims:[1=1];", 2, 14);
        fault("line 2;claims:1=1;", 2, 15);
        fault("line 2;claims:if 1 then 1 else 1 end;", 2, 19);
        fault("line 2;claims:if 1=1 else 1 end;", 2, 21);
        fault("line 2;claims:if 1=1 then 1 end;", 2, 28);
        fault("line 2;claims:if 1=1 then 1 else 1;", 2, 34);
        fault("line 2;claims:if 1=1=1 then 1 else 1 end;", 2, 20);
        fault("line 2;claims:if (1=1) then 1 else 1 end;", 2, 19);
        fault("line 2;claims:if [1=1 then 1 else 1 end;", 2, 22);
        fault("line 2;claims:if [1=1]=1 then 1 else 1 end;", 2, 22);
        fault("line 2;claims:if not then 1 else 1 end;", 2, 21);
        fault("line 2;claims:at;", 2, 14);
    }

    private static void faultThree() {
        fault("line 1;", 3, 5);
        fault("line 0;", 3, 5);
        fault("line 9;", 3, 5);
        fault("line 2;thing at 2;", 3, 16);
        fault("line 2;thing at 0 hue 10;", 3, 22);
        fault("line 2;thing at 0 weight 10;", 3, 25);
        fault("line 2;person at 2;", 3, 17);
        fault("line 2;person at 0 mark 10;", 3, 24);
        fault("line 2;person at 0 bears 100;", 3, 25);
        fault("line 2;person at 0 holds 0;thing at 0;", 3, 25);
        fault("line 2;thing at 0;person at 0 holds 0;person at 0 holds 0;", 3, 56);
        fault("line 2;thing at 0;person at 0 holds 0 holds 0;", 3, 44);
        fault("line 2;thing at 0;person at 0 holds 999;", 3, 36);
        fault("line 2;wet 11;", 3, 11);
    }

    private static void faultFour() {
        String eight = "line 2;" + "thing at 0;".repeat(8);
        fault(eight + "thing at 0;", 4, 95);
        fault(eight + "thing", 4, 95);
        fault(eight + "wet 1;thing foo", 4, 101);
        due("eight things", Check.tell(new GampLine(), eight), 9);
        String six = "line 2;" + "person at 0;".repeat(6);
        fault(six + "person at 9;", 4, 79);
        due("six people", Check.tell(new GampLine(), six), 7);
        due("six ( deep", Check.tell(new GampLine(), "line 2;claims:((((((1))))))*((((((1))))));"), 2);
        fault("line 2;claims:(((((((1)))))));", 4, 20);
        fault("line 2;claims:((((((if 1=1 then 1 else 1 end))))));", 4, 20);
        due("six of all", Check.tell(new GampLine(),
            "line 2;claims:(if not [ not [ 1=1 ]] then 1 else (2) end);"), 2);
        fault("line 2;claims:(if not [ not [ (1)=1 ]] then 1 else (2) end);", 4, 30);
        fault("line 2;claims:if not not not not not not 1=1 then 1 else 2 end;", 4, 37);
        due("six of not", Check.tell(new GampLine(),
            "line 2;claims:if not not not not not 1=1 and not not not not not 1=1 then 1 else 2 end;"), 2);
        fault("line 2;opens:if [[[[[[1=1]]]]]] then 1 else 2 end;", 4, 21);
        due("if in the else", Check.tell(new GampLine(), "line 2;claims:"
            + "if 1=1 then 1 else ".repeat(6) + "2" + " end".repeat(6) + ";"), 2);
        fault("line 2;claims:" + "if 1=1 then 1 else ".repeat(7) + "2" + " end".repeat(7) + ";", 4, 14 + 6 * 19);
    }

    private static void firstFaultCounts() {
        fault("line 2;thing at 5;?", 3, 16);
        fault("line 2;thing at ?;thing at 5;", 1, 16);
        fault("line 2;foo ? 1234", 2, 7);
        fault("line 2;1234", 1, 7);
        fault("line 2;claims:(((((((?", 4, 20);
        fault("line 9 ?", 3, 5);
    }

    private static void faultLeavesAll() {
        GampLine x = Check.told("line 4;thing at 1 hue 2;person at 2 mark 2 holds 0;claims:5;");
        x.seed(77);
        x.leave(0);
        due("a fault", Check.tell(x, "line 2;thing at 0;thing at 0;wet 99;"), -33);
        due("stations stay", x.count(0), 4);
        due("things stay", x.count(1), 1);
        due("where stays", x.thing(0, 0), 2);
        due("law stays", x.claims(0, 0), 5);
        due("undo stays", x.count(7), 2);
        due("lines stay", x.count(9), 4);
        due("tape is empty", x.count(8), 0);
        due("undo", x.undo(1), 1);
        due("where", x.thing(0, 0), 10);
    }

    private static void thingsAndPeople() {
        GampLine x = Check.told("line 3;thing at 2;thing at 1 hue 9 weight 9;person at 0;"
            + "person at 2 mark 9 bears 99 holds 1;person at 1 bears 0;");
        due("where", x.thing(0, 0), 2);
        due("where held", x.thing(1, 0), 11);
        due("hue 0", x.thing(0, 1), 0);
        due("hue 9", x.thing(1, 1), 9);
        due("weight 0", x.thing(0, 2), 0);
        due("weight 9", x.thing(1, 2), 9);
        due("opened", x.thing(1, 3), 0);
        due("thing(1, 4)", x.thing(1, 4), -2);
        due("thing(1, -1)", x.thing(1, -1), -2);
        due("thing(2, 0)", x.thing(2, 0), -2);
        due("thing(-1, 0)", x.thing(-1, 0), -2);
        due("station", x.person(1, 0), 2);
        due("mark", x.person(1, 1), 9);
        due("mark 0", x.person(0, 1), 0);
        due("bears", x.person(1, 2), 99);
        due("bears 10", x.person(0, 2), 10);
        due("bears 0", x.person(2, 2), 0);
        due("holds", x.person(1, 3), 1);
        due("holds none", x.person(0, 3), -1);
        due("borne", x.person(0, 4), 0);
        due("person(0, 5)", x.person(0, 5), -2);
        due("person(0, -1)", x.person(0, -1), -2);
        due("person(3, 0)", x.person(3, 0), -2);
        due("person(-1, 0)", x.person(-1, 0), -2);
        due("held", x.count(4), 2);
        x.days(1);
        due("office", x.thing(0, 0), 99);
    }

    private static int claim(String law) {
        return Check.told("line 2;thing at 0;thing at 0 hue 3 weight 4;person at 0;person at 1 mark 7;claims:" + law
            + ";").claims(1, 1);
    }

    private static void lawOfClaims() {
        GampLine x = Check.told("line 2;thing at 0 hue 3;thing at 0;person at 0 mark 3;person at 0;");
        due("mark is hue", x.claims(0, 0), 1);
        due("mark isn't hue", x.claims(0, 1), 0);
        due("both 0", x.claims(1, 1), 1);
        x.mark(1, 3);
        due("another mark", x.claims(1, 0), 1);
        due("claims(2, 0)", x.claims(2, 0), -99000002);
        due("claims(0, 2)", x.claims(0, 2), -99000002);
        due("claims(-1, 0)", x.claims(-1, 0), -99000002);
        due("claims(0, -1)", x.claims(0, -1), -99000002);
        due("who", claim("who"), 1);
        due("mark", claim("mark"), 7);
        due("thing", claim("thing"), 1);
        due("hue", claim("hue"), 3);
        due("weight", claim("weight"), 4);
        due("a number", claim("042"), 42);
        due("+", claim("mark + hue + weight"), 14);
        due("- from the left", claim("mark - hue - weight"), 0);
        due("* ahead of +", claim("2 + mark * hue - 1 * 3"), 20);
        due("( )", claim("(2 + mark) * (hue - 1)"), 18);
        due("below 0", claim("hue - mark"), -4);
        due("kept above", claim("999*999*999 - 1"), 999999);
        due("kept below", claim("0-999*999-999*999 + 1"), -999999);
        due("* kept", claim("999*999*2 - 999*999"), 1000000 - 998001);
        due("each kept", claim("999*999 + 999*999 - 999*999"), 1000000 - 998001);
        due("greatest product", claim("(0-999*999*9) * (999*999*9) + 0"), -1000000);
        due("product of both below 0", claim("(0-999*999*9) * (0-999*999*9)"), 1000000);
        due("- kept", claim("(0-999*999*9) - (999*999*9)"), -1000000);
        due("if", claim("if mark = 7 then 10 else 20 end"), 10);
        due("if not so", claim("if mark = 6 then 10 else 20 end"), 20);
        due("if within", claim("if 1=2 then if 1=1 then 1 else 2 end else if 1=1 then 3 else 4 end end"), 3);
        due("if in a sum", claim("1 + if 1=1 then 2 + 3 else 4 end * 2 + 5"), 16);
        due("a long law", claim("1" + "+1".repeat(300)), 301);
        due("a longer law", claim("1" + "*1".repeat(390)), 1);
    }

    private static void lawOfOpens() {
        GampLine x = Check.told("line 2;thing at 0 weight 6;thing at 0 weight 3;person at 0 bears 99 holds 0;wet 10;");
        due("weight", x.burden(0, 0), 6);
        due("another weight", x.burden(0, 1), 3);
        due("burden(1, 0)", x.burden(1, 0), -2);
        due("burden(0, 2)", x.burden(0, 2), -2);
        due("burden(-1, 0)", x.burden(-1, 0), -2);
        due("burden(0, -1)", x.burden(0, -1), -2);
        x = Check.told("line 2;thing at 0 weight 6 hue 1;person at 0 bears 99 mark 3 holds 0;wet 10;"
            + "opens:weight + 10 * wet + borne + mark * hue;");
        due("dry", x.burden(0, 0), 9);
        due("open", x.open(0), 9);
        due("borne", x.burden(0, 0), 18);
        due("open again", x.open(0), 27);
        x.days(1);
        due("wet", x.burden(0, 0), 19);
        x = Check.told("line 2;thing at 0;person at 0;opens:0-5;");
        due("0 at least", x.burden(0, 0), 0);
        x = Check.told("line 2;thing at 0;person at 0;opens:100;");
        due("99 at most", x.burden(0, 0), 99);
    }

    private static void truth(String truth, boolean holds) {
        due(truth, claim("if " + truth + " then 1 else 0 end"), holds ? 1 : 0);
    }

    private static void truths() {
        truth("1 = 1", true);
        truth("1 = 2", false);
        truth("1 < 2", true);
        truth("2 < 2", false);
        truth("2 > 1", true);
        truth("2 > 2", false);
        truth("0 - 1 < 0", true);
        truth("1 + 1 = 2 * 1", true);
        truth("not 1 = 1", false);
        truth("not not 1 = 1", true);
        truth("1=1 or 1=1 and 1=2", true);
        truth("[1=1 or 1=1] and 1=2", false);
        truth("not 1=1 or 1=1", true);
        truth("not [1=1 or 1=1]", false);
        truth("not 1=2 and 1=2", false);
        truth("1=2 and 1=2 or 1=1", true);
        truth("1=2 or 1=2 or 1=1", true);
        truth("1=1 and 1=1 and 1=2", false);
        truth("(1) = (if 1=1 then 1 else 2 end)", true);
        truth("if 1=1 then 2 else 3 end = 2", true);
    }
}
