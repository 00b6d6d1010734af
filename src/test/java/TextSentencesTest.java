/** The document's terms, part 1: the text of a line, its tokens, its faults; a test for each sentence. */
public final class TextSentencesTest {
    private static final Sentences DOC = new Sentences("TextSentencesTest");
    private static final String[] WORDS = ("line thing person claims opens wet at hue weight mark bears holds who borne if"
        + " then else end not and or foo").split(" ");
    private static final String[] SIGNS = "; : + - * ( ) [ ] = < >".split(" ");
    private static final String ATOMS = "2 ( if who mark thing hue weight";
    private static final String UNITS = ATOMS + " not [";

    public static void main(String[] args) {
        DOC.section("## Terms", "==== 2.");
        bytes();
        withoutText();
        head();
        lines();
        looksAndFlags();
        sums();
        atoms();
        truths();
        sixWithinOneAnother();
        stations();
        things();
        people();
        held();
        wet();
        laterStrike();
        laterLawsStrike();
        tokens();
        faultsAlong();
        faultOne();
        faultTwo();
        faultThree();
        faultFour();
        DOC.end();
    }

    private static void due(String call, long got, long want) {
        DOC.due(call, got, want);
    }

    private static void fault(String text, int kind, int place) {
        GampLine x = new GampLine();
        due("line \"" + text + "\"", Check.tell(x, text), -30 - kind);
        due("fault(0) of \"" + text + "\"", x.fault(0), kind);
        due("fault(1) of \"" + text + "\"", x.fault(1), place);
    }

    private static GampLine fine(String text, int lines) {
        GampLine x = new GampLine();
        due("line \"" + text + "\"", Check.tell(x, text), lines);
        due("fault(0) of \"" + text + "\"", x.fault(0), 0);
        due("fault(1) of \"" + text + "\"", x.fault(1), -1);
        return x;
    }

    /** Behind this beginning just these tokens can stand: any other is FAULT 2, at its place; so is the end. */
    private static void follow(String ahead, String tokens) {
        java.util.List<String> fine = java.util.List.of(tokens.split(" "));
        java.util.List<String> all = new java.util.ArrayList<>(java.util.List.of(WORDS));
        all.addAll(java.util.List.of(SIGNS));
        all.add("2");
        for (String token : all) {
            GampLine x = new GampLine();
            int code = Check.tell(x, ahead + " " + token);
            boolean stands = code > 0 || x.fault(1) > ahead.length() + 1;
            due("\"" + token + "\" can stand behind \"" + ahead + "\"", stands ? 1 : 0, fine.contains(token) ? 1 : 0);
            if (!fine.contains(token)) {
                due("\"" + token + "\" behind \"" + ahead + "\"", code, -32);
                due("its place", x.fault(1), ahead.length() + 1);
            }
        }
        if (fine.contains("END")) {
            due("the end behind \"" + ahead + "\"", Check.tell(new GampLine(), ahead) > 0 ? 1 : 0, 1);
        } else {
            fault(ahead, 2, ahead.length());
        }
    }

    private static String padded(String head, String tail, int length) {
        return head + " ".repeat(length - head.length() - tail.length()) + tail;
    }

    private static void bytes() {
        DOC.says("THE LINE is a TEXT of at most 900 bytes");
        GampLine x = fine(padded("line 5;", "wet 10;", 900), 2);
        due("stations", x.count(0), 5);
        x.days(1);
        due("wet by the last line", x.count(5), 1);
        fault(padded("line 5;", "wet 10", 900), 2, 900);
        fault(padded("line 5;", "wet 10?", 900), 1, 899);
        fault(padded("line 5;", "wet 11;", 900), 3, 897);
        fault(padded("line 5;", "we", 900), 2, 898);
        fault(padded("line 5;", "wet", 900), 2, 900);
        fault(padded("line 5;", "wet 1", 900), 2, 900);
        fault(padded("line 5;", "wet 1000", 900), 1, 896);
        String head = "line 2;thing at 0;person at 0;claims:1";
        int more = (900 - head.length() - 1) / 2;
        x = fine(head + "+1".repeat(more) + " ".repeat(900 - head.length() - 1 - 2 * more) + ";", 4);
        due("a law of as many tokens as there may be", x.claims(0, 0), 1 + more);
        String many = "line 2;thing at 0;person at 0;" + "claims:0;".repeat(94);
        x = fine(many + padded("claims:7;opens:8;", "", 900 - many.length()), 99);
        due("the last of ninety-five laws", x.claims(0, 0), 7);
        due("and one behind them", x.burden(0, 0), 8);
        for (int i = 0; i < 45; i++) {
            due("feed", x.feed(-1, -1, -1, -1, -1), 20 * (i + 1));
        }
        due("beyond 900", x.feed(-1, -1, -1, -1, -1), -5);
    }

    private static void withoutText() {
        DOC.says("(without one: 2 STATIONS, no THINGS, no PEOPLE)");
        GampLine x = new GampLine();
        due("STATIONS", x.count(0), 2);
        due("THINGS", x.count(1), 0);
        due("PEOPLE", x.count(2), 0);
        due("thing 0", x.thing(0, 0), -2);
        due("person 0", x.person(0, 0), -2);
        Check.tell(x, "line 1;");
        due("a text with a FAULT is none", x.count(0), 2);
    }

    private static void head() {
        DOC.says("line N ; { LINE ; }");
        follow("", "line");
        follow("line", "2");
        follow("line 2", ";");
        follow("line 2;", "thing person claims opens wet END");
        follow("line 2;wet 1;", "thing person claims opens wet END");
        fine("line 2;", 1);
        fine("line 3;wet 0;wet 1;", 3);
        fault("line 2;wet 0;wet 1", 2, 18);
        fault("line 2;;", 2, 7);
    }

    private static void lines() {
        DOC.says("LINE: thing at N { LOOK } | person at N { FLAG } | claims : SUM | opens : SUM | wet N.");
        follow("line 3;thing", "at");
        follow("line 3;thing at", "2");
        follow("line 3;thing at 0", "hue weight ;");
        follow("line 3;person", "at");
        follow("line 3;person at", "2");
        follow("line 3;person at 0", "mark bears holds ;");
        follow("line 3;claims", ":");
        follow("line 3;claims:", ATOMS);
        follow("line 3;claims:1", "+ - * ;");
        follow("line 3;opens", ":");
        follow("line 3;opens:", ATOMS + " wet borne");
        follow("line 3;opens:1", "+ - * ;");
        follow("line 3;wet", "2");
        follow("line 3;wet 1", ";");
        GampLine x = fine("line 3;wet 10;opens:6;claims:5;person at 2;thing at 1;person at 0;thing at 2;", 8);
        due("in any order: things", x.count(1), 2);
        due("people", x.count(2), 2);
        due("claims", x.claims(1, 1), 5);
        due("opens", x.burden(1, 1), 6);
        x.days(1);
        due("wet", x.count(5), 1);
    }

    private static void looksAndFlags() {
        String three = "line 3;thing at 0;thing at 0;thing at 0;";
        DOC.says("LOOK: hue N | weight N.");
        follow("line 3;thing at 0 hue", "2");
        follow("line 3;thing at 0 hue 1", "hue weight ;");
        follow("line 3;thing at 0 weight", "2");
        follow("line 3;thing at 0 weight 1", "hue weight ;");
        GampLine x = fine("line 3;thing at 1 weight 2 hue 3;thing at 2 hue 5;thing at 0 weight 7;", 4);
        due("hue", x.thing(0, 1), 3);
        due("weight", x.thing(0, 2), 2);
        due("hue alone", x.thing(1, 1), 5);
        due("weight alone", x.thing(2, 2), 7);
        DOC.says("FLAG: mark N | bears N | holds N.");
        follow(three + "person at 0 mark", "2");
        follow(three + "person at 0 mark 1", "mark bears holds ;");
        follow(three + "person at 0 bears", "2");
        follow(three + "person at 0 bears 1", "mark bears holds ;");
        follow(three + "person at 0 holds", "2");
        follow(three + "person at 0 holds 1", "mark bears holds ;");
        x = fine(three + "person at 1 holds 2 bears 3 mark 4;person at 2 mark 5;person at 0 bears 6;", 7);
        due("mark", x.person(0, 1), 4);
        due("bears", x.person(0, 2), 3);
        due("holds", x.person(0, 3), 2);
        due("mark alone", x.person(1, 1), 5);
        due("bears alone", x.person(2, 2), 6);
    }

    private static int claim(String law) {
        return Check.told("line 2;thing at 0;thing at 0 hue 3 weight 4;person at 0;person at 1 mark 7;claims:" + law
            + ";").claims(1, 1);
    }

    private static void sums() {
        DOC.says("SUM: TERM { + TERM | - TERM };");
        follow("line 3;claims:1+", ATOMS);
        follow("line 3;claims:1-", ATOMS);
        follow("line 3;claims:1+1", "+ - * ;");
        due("from the left", claim("9-4-3"), 2);
        due("one behind the other", claim("9-4+3-1+2"), 9);
        due("one TERM alone", claim("6"), 6);
        DOC.says("TERM: ATOM { * ATOM };");
        follow("line 3;claims:1*", ATOMS);
        follow("line 3;claims:1*1", "+ - * ;");
        due("ahead of + and -", claim("1+2*3-4*5"), -13);
        due("three of them", claim("2*3*4"), 24);
        due("of parts in ( )", claim("(1+2)*(3-5)"), -6);
    }

    private static void atoms() {
        DOC.says("ATOM: N, ( SUM ), if TRUTH then SUM else SUM end, who, mark, thing, hue, weight,");
        follow("line 3;claims:(", ATOMS);
        follow("line 3;claims:(1", "+ - * )");
        follow("line 3;claims:(1)", "+ - * ;");
        follow("line 3;claims:if", UNITS);
        follow("line 3;claims:if 1=1 then", ATOMS);
        follow("line 3;claims:if 1=1 then 1", "+ - * else");
        follow("line 3;claims:if 1=1 then 1 else", ATOMS);
        follow("line 3;claims:if 1=1 then 1 else 1", "+ - * end");
        follow("line 3;claims:if 1=1 then 1 else 1 end", "+ - * ;");
        for (String word : "who mark thing hue weight".split(" ")) {
            follow("line 3;claims:" + word, "+ - * ;");
        }
        due("N", claim("0"), 0);
        due("N of three digits", claim("999"), 999);
        due("if ends where it ends", claim("if 1=1 then 2 else 3 end*5+1"), 11);
        due("if as a second ATOM", claim("4*if 1=2 then 2 else 3 end"), 12);
        DOC.says("in opens wet, borne too.");
        follow("line 3;opens:wet", "+ - * ;");
        follow("line 3;opens:borne", "+ - * ;");
        follow("line 3;opens:if", UNITS + " wet borne");
        follow("line 3;opens:if wet=", ATOMS + " wet borne");
        follow("line 3;opens:if wet=1 then", ATOMS + " wet borne");
        follow("line 3;opens:if wet=1 then 1 else", ATOMS + " wet borne");
        follow("line 3;opens:(", ATOMS + " wet borne");
        follow("line 3;opens:1*", ATOMS + " wet borne");
        follow("line 3;opens:wet;claims:", ATOMS);
        follow("line 3;claims:1;opens:", ATOMS + " wet borne");
    }

    private static void truth(String truth, boolean holds) {
        due(truth, claim("if " + truth + " then 1 else 0 end"), holds ? 1 : 0);
    }

    private static void mixed(String[] units) {
        for (int bits = 0; bits < 16; bits++) {
            boolean a = (bits & 1) > 0;
            boolean b = (bits & 2) > 0;
            boolean c = (bits & 4) > 0;
            boolean d = (bits & 8) > 0;
            String[] u = {units[bits & 1], units[bits >> 1 & 1], units[bits >> 2 & 1], units[bits >> 3 & 1]};
            truth(u[0] + " or " + u[1] + " and " + u[2] + " or " + u[3], a || b && c || d);
            truth(u[0] + " and " + u[1] + " or " + u[2] + " and " + u[3], a && b || c && d);
            truth(u[0] + " and " + u[1] + " and " + u[2] + " and " + u[3], a && b && c && d);
            truth(u[0] + " or " + u[1] + " or " + u[2] + " or " + u[3], a || b || c || d);
            truth("not " + u[0] + " and [" + u[1] + " or not [" + u[2] + " and " + u[3] + "]]", !a && (b || !(c && d)));
            truth(u[0] + " and 0=0", a);
            truth("0=0 and not " + u[0], !a);
        }
    }

    private static void truths() {
        DOC.says("TRUTH: BOTH { or BOTH }; BOTH: UNIT { and UNIT };");
        follow("line 3;claims:if 1=1", "+ - * and or then");
        follow("line 3;claims:if 1=1 or", UNITS);
        follow("line 3;claims:if 1=1 or 1=1", "+ - * and or then");
        follow("line 3;claims:if 1=1 and", UNITS);
        follow("line 3;claims:if 1=1 and 1=1", "+ - * and or then");
        for (String[] units : new String[][] {{"0=1", "0=0"}, {"1<0", "0<1"}, {"0>1", "1>0"}}) {
            mixed(units);
        }
        DOC.says("UNIT: not UNIT, [ TRUTH ], or SUM, one of = < >, SUM.");
        follow("line 3;claims:if not", UNITS);
        follow("line 3;claims:if not 1=1", "+ - * and or then");
        follow("line 3;claims:if [", UNITS);
        follow("line 3;claims:if [1=1", "+ - * and or ]");
        follow("line 3;claims:if [1=1]", "and or then");
        follow("line 3;claims:if not [1=1]", "and or then");
        follow("line 3;claims:if 1", "+ - * = < >");
        follow("line 3;claims:if (1)", "+ - * = < >");
        follow("line 3;claims:if 1=", ATOMS);
        follow("line 3;claims:if 1<", ATOMS);
        follow("line 3;claims:if 1>", ATOMS);
        for (int a = 0; a < 3; a++) {
            truth(a + " = 1", a == 1);
            truth(a + " < 1", a < 1);
            truth(a + " > 1", a > 1);
            truth("not " + a + " = 1", a != 1);
            truth("1 - 2 < " + a + " - 1 * 2", -1 < a - 2);
        }
    }

    private static void sixWithinOneAnother() {
        DOC.says("At most six of not [ ( if within one another.");
        due("six (", claim("((((((5))))))"), 5);
        due("six if", claim("if 1=1 then ".repeat(6) + "5" + " else 0 end".repeat(6)), 5);
        due("six of if and [", claim("if [[[[[1=1]]]]] then 5 else 0 end"), 5);
        due("six of if and not", claim("if not not not not not 1=1 then 5 else 6 end"), 6);
        due("six of all", claim("(if not [not (2)=1] then 5 else 6 end)"), 6);
        due("beside one another: (", claim("((((((1))))))" + "+((((((1))))))".repeat(20)), 21);
        due("beside one another: if", claim("if 1=1 then 1 else 0 end" + "+if 1=1 then 1 else 0 end".repeat(20)), 21);
        due("beside one another: [", claim("if [[1=1]]" + " and [[[[[1=1]]]]]".repeat(20) + " then 5 else 0 end"), 5);
        due("beside one another: not", claim("if not 1=2" + " and not not not 1=2".repeat(20) + " then 5 else 0 end"), 5);
        due("in each part of if", claim("if (((((1)))))=(((((1))))) then (((((5))))) else (((((6))))) end"), 5);
        // Many values wait for what stands within: of sums, products, comparisons, and, or.
        String deep = "1+1*if 1=2 or 1=1 and 0<".repeat(6) + "1" + " then 1 else 0 end".repeat(6);
        due("all that waits at each", claim(deep), 2);
        deep = "1+1*(1*1*".repeat(6) + "9" + ")".repeat(6);
        due("sums and products that wait", claim(deep), 15);
        fault("line 2;claims:(((((((1)))))));", 4, 20);
    }

    private static void stations() {
        DOC.says("line: STATIONS, 2 to 8, numbered from 0 on.");
        fault("line 0;", 3, 5);
        fault("line 1;", 3, 5);
        for (int n = 2; n <= 8; n++) {
            GampLine x = fine("line " + n + ";thing at " + (n - 1) + ";", 2);
            due("STATIONS", x.count(0), n);
            due("the first STATION", x.takes(0, 0), n);
            due("the last STATION", x.takes(0, n - 1), 1);
            due("none behind it", x.takes(0, n), -2);
            fault("line " + n + ";thing at " + n + ";", 3, 16);
            fault("line " + n + ";person at " + n + ";", 3, 17);
        }
        fault("line 9;", 3, 5);
        fault("line 10;", 3, 5);
        fault("line 999;", 3, 5);
    }

    private static void things() {
        DOC.says("thing: on the RACK at a STATION; hue, weight 0 to 9 (0);");
        for (int n = 0; n <= 9; n++) {
            GampLine x = fine("line 8;thing at " + Math.min(n, 7) + " hue " + n + ";thing at 0 weight " + n + ";", 3);
            due("where", x.thing(0, 0), Math.min(n, 7));
            due("hue", x.thing(0, 1), n);
            due("weight", x.thing(1, 2), n);
            due("weight (0)", x.thing(0, 2), 0);
            due("hue (0)", x.thing(1, 1), 0);
        }
        fault("line 8;thing at 8;", 3, 16);
        fault("line 8;thing at 0 hue 10;", 3, 22);
        fault("line 8;thing at 0 weight 10;", 3, 25);
        GampLine y = fine("line 2;thing at 0 hue 5 weight 6;thing at 1;", 3);
        Check.tell(y, "line 2;thing at 0;thing at 0;");
        due("hue (0) of another text", y.thing(0, 1), 0);
        due("weight (0) of another text", y.thing(0, 2), 0);
        DOC.says("numbered from 0 on, 8 at most.");
        StringBuilder text = new StringBuilder("line 8;");
        for (int n = 0; n < 8; n++) {
            text.append("thing at ").append(n).append(" hue ").append(9 - n).append(';');
            GampLine x = fine(text.toString(), n + 2);
            due("how many", x.count(1), n + 1);
            due("the last one", x.thing(n, 0), n);
            due("its hue", x.thing(n, 1), 9 - n);
            due("the first one", x.thing(0, 1), 9);
            due("one more", x.thing(n + 1, 0), -2);
        }
        fault(text + "thing at 0;", 4, text.length());
    }

    private static void people() {
        DOC.says("person: at a STATION; mark 0 to 9 (0); bears 0 to 99 (10);");
        for (int n = 0; n <= 99; n++) {
            GampLine x = Check.told("line 8;person at " + n % 8 + " bears " + n + ";person at 0 mark " + n % 10 + ";");
            due("STATION", x.person(0, 0), n % 8);
            due("mark (0)", x.person(0, 1), 0);
            due("bears", x.person(0, 2), n);
            due("mark", x.person(1, 1), n % 10);
            due("bears (10)", x.person(1, 2), 10);
        }
        fault("line 8;person at 8;", 3, 17);
        fault("line 8;person at 0 mark 10;", 3, 24);
        fault("line 8;person at 0 bears 100;", 3, 25);
        GampLine y = fine("line 2;person at 0 mark 5 bears 6;", 2);
        Check.tell(y, "line 2;person at 0;");
        due("mark (0) of another text", y.person(0, 1), 0);
        due("bears (10) of another text", y.person(0, 2), 10);
        DOC.says("numbered from 0 on, 6 at most.");
        StringBuilder text = new StringBuilder("line 8;");
        for (int n = 0; n < 6; n++) {
            text.append("person at ").append(n).append(" mark ").append(9 - n).append(';');
            GampLine x = fine(text.toString(), n + 2);
            due("how many", x.count(2), n + 1);
            due("the last one", x.person(n, 0), n);
            due("its mark", x.person(n, 1), 9 - n);
            due("the first one", x.person(0, 1), 9);
            due("one more", x.person(n + 1, 0), -2);
        }
        fault(text + "person at 0;", 4, text.length());
    }

    private static void held() {
        DOC.says("holds: a THING told ahead that nobody holds;");
        fault("line 2;person at 0 holds 0;", 3, 25);
        fault("line 2;thing at 0;person at 0 holds 1;thing at 0;", 3, 36);
        fault("line 2;thing at 0;person at 0 holds 0;person at 1 holds 0;", 3, 56);
        String eight = "line 2;" + "thing at 0;".repeat(8);
        fault(eight + "person at 0 holds 8;", 3, eight.length() + 18);
        GampLine x = fine(eight + "person at 0 holds 7;person at 1 holds 0;", 11);
        due("the last one", x.thing(7, 0), 10);
        due("the first one", x.thing(0, 0), 11);
        x = fine("line 2;thing at 0;person at 0 holds 0;thing at 1;person at 0 holds 1;", 5);
        due("things between people", x.thing(1, 0), 11);
        due("the other one", x.thing(0, 0), 10);
    }

    private static void wet() {
        DOC.says("wet: how likely, in 10, 0 to 10 (0).");
        for (int n = 0; n <= 10; n++) {
            GampLine x = fine("line 2;wet " + n + ";", 2);
            int wet = 0;
            for (int d = 0; d < 10; d++) {
                // The draws behind these seeds are 0 to 9 modulo 10.
                x.seed(seedWithDraw(d));
                x.days(1);
                wet += x.count(5);
            }
            due("so many of 10", wet, n);
        }
        fault("line 2;wet 11;", 3, 11);
        fault("line 2;wet 999;", 3, 11);
        GampLine x = fine("line 2;", 1);
        x.days(1);
        due("(0)", x.count(5), 0);
        x = Check.told("line 2;wet 10;");
        Check.tell(x, "line 2;");
        x.days(1);
        due("(0) of another text", x.count(5), 0);
    }

    private static int seedWithDraw(int modulo) {
        int seed = 0;
        while ((1103515245 * seed + 12345 >>> 16) % 10 != modulo) {
            seed++;
        }
        return seed;
    }

    private static void laterStrike() {
        DOC.says("Of one thing, one person the later one of a word strikes (holds: the one ahead is on its RACK again);");
        GampLine x = fine("line 8;thing at 3 hue 1 weight 2 hue 4 weight 5 hue 6;thing at 4;thing at 5;"
            + "person at 0 mark 1 bears 1 mark 2 bears 2 holds 0 holds 1 mark 3 holds 2 bears 3;", 5);
        due("hue", x.thing(0, 1), 6);
        due("weight", x.thing(0, 2), 5);
        due("mark", x.person(0, 1), 3);
        due("bears", x.person(0, 2), 3);
        due("holds", x.person(0, 3), 2);
        due("0 is on its RACK again", x.thing(0, 0), 3);
        due("1 is on its RACK again", x.thing(1, 0), 4);
        due("one each at most", x.count(4), 4);
        x = fine("line 8;thing at 3;thing at 4;person at 0 holds 0 holds 1 holds 0;person at 1 holds 1;", 5);
        due("held again", x.thing(0, 0), 10);
        due("held by another one then", x.thing(1, 0), 11);
        x = fine("line 8;thing at 3;thing at 4;person at 0 holds 1;person at 0 holds 0;", 5);
        due("of one person alone", x.thing(1, 0), 10);
        due("the other person's", x.thing(0, 0), 11);
    }

    private static void laterLawsStrike() {
        DOC.says("later ones of claims, opens, wet strike.");
        GampLine x = fine("line 2;thing at 0;person at 0;claims:1+2*3;opens:4;wet 10;claims:mark+5;wet 0;opens:(6);"
            + "claims:8;opens:9;", 11);
        due("claims", x.claims(0, 0), 8);
        due("opens", x.burden(0, 0), 9);
        x.seed(seedWithDraw(0));
        x.days(1);
        due("wet", x.count(5), 0);
        x = fine("line 2;wet 0;wet 10;", 3);
        x.days(1);
        due("wet the other way", x.count(5), 1);
        x = Check.told("line 2;thing at 0 weight 7;person at 0;claims:5;opens:5;");
        Check.tell(x, "line 2;thing at 0 weight 7;person at 0;");
        due("no law of claims in another text", x.claims(0, 0), 1);
        due("no law of opens in another text", x.burden(0, 0), 7);
        x = Check.told("line 2;thing at 0 weight 7;person at 0;opens:5;claims:5;");
        Check.tell(x, "line 2;thing at 0 weight 7;person at 0;");
        due("no law of claims in another text", x.claims(0, 0), 1);
        due("no law of opens in another text", x.burden(0, 0), 7);
        x = new GampLine();
        for (int i = 1; i < 12; i++) {
            Check.tell(x, "line 2;thing at 0;person at 0;claims:if not [1=1 and 2=2] then 5*3 else 6-if 1<2 then 3 else 2 end end;");
            due("a long law", x.claims(0, 0), 3);
            Check.tell(x, "line 2;thing at 0;person at 0;claims:1" + "+1".repeat(i) + ";");
            due("a shorter one in another text", x.claims(0, 0), 1 + i);
            Check.tell(x, "line 2;thing at 0;person at 0;opens:if not [1=1 and 2=2] then 5*3 else 6-if 1<2 then 3 else 2 end end;");
            due("a long law", x.burden(0, 0), 3);
            Check.tell(x, "line 2;thing at 0;person at 0;opens:if 1=1 then 1 else 0 end" + "+1".repeat(i) + ";");
            due("another one in another text", x.burden(0, 0), 1 + i);
        }
        for (int i = 0; i < 12; i++) {
            Check.tell(x, "line 2;thing at 0;person at 0;claims:" + i + "+1".repeat(100) + ";opens:" + i + "+1".repeat(50) + ";");
            due("the law of text " + i, x.claims(0, 0), i + 100);
            due("the other one", x.burden(0, 0), i + 50);
        }
    }

    private static void tokens() {
        DOC.says("TOKENS, as long as they go on,");
        fault("linet 2;", 2, 0);
        fault("lin e 2;", 2, 0);
        fault("line22;", 3, 4);
        fault("line 2;thingat 0;", 2, 7);
        fault("line 2;thing atx 0;", 2, 13);
        fault("line 2;wet 1 0;", 2, 13);
        fault("line 2;claims:if 1=1 then 1 elsee 2 end;", 2, 28);
        due("the end of a word is where it ends", claim("if not 1=2 then who else mark end"), 1);
        DOC.says("between them blanks (10, 32):");
        GampLine x = fine("\n\n line \n 3 ; thing  at\n1 hue\n 2 ;\n\nperson at 2;wet  \n  4 ;  \n ", 4);
        due("hue", x.thing(0, 1), 2);
        x = fine("line3;thing at1hue2weight3;person at2mark4holds0bears5;claims:if mark=4then 1else 2end;", 4);
        due("none are needed where a TOKEN ends", x.claims(0, 0), 1);
        for (int sign : new int[] {0, 9, 11, 12, 13, 31, 160}) {
            fault("line 2;" + (char) sign + "wet 1;", 1, 7);
        }
        DOC.says("words (small letters), N (1 to 3 digits), the signs ; : + - * ( ) [ ] = < >.");
        for (int sign = 0; sign < 256; sign++) {
            String text = "line 2;" + (char) sign;
            boolean isToken = sign >= 'a' && sign <= 'z' || sign >= '0' && sign <= '9' || ";:+-*()[]=<>".indexOf(sign) >= 0;
            if (sign == 10 || sign == 32) {
                fine(text, 1);
            } else {
                fault(text, isToken ? 2 : 1, 7);
            }
        }
        fine("line 2;wet 1;", 2);
        fine("line 2;wet 01;", 2);
        fine("line 2;wet 001;", 2);
        fault("line 2;wet 0001;", 1, 11);
        due("three digits", claim("007"), 7);
        fault("line 2;WET 1;", 1, 7);
        fault("line 2;wEt 1;", 2, 7);
        fault("line 2;wet\u00e91;", 1, 10);
    }

    private static void faultsAlong() {
        DOC.says("FAULTS, the first along the text,");
        String head = "line 2;" + "thing at 0;".repeat(8);
        String[] wrong = {"?", "foo", "wet 99", "thing"};
        int[] place = {0, 0, 4, 0};
        for (int a = 0; a < 4; a++) {
            for (int b = 0; b < 4; b++) {
                fault(head + wrong[a] + ";" + wrong[b] + ";", a + 1, head.length() + place[a]);
                fault(head + "wet 1;\n" + wrong[a] + " " + wrong[b], a + 1, head.length() + 7 + place[a]);
            }
        }
        DOC.says("of one TOKEN the least kind:");
        fault("line 2;1234", 1, 7);
        fault("line 2;wet 1234;", 1, 11);
        fault("line 2;wet 1 1234;", 1, 13);
        fault("line 2;99;", 2, 7);
        fault("line 2;thing 9;", 2, 13);
        fault("line 2;wet 5 99;", 2, 13);
        fault(head + "wet thing", 2, head.length() + 4);
        fault(head + "claims thing", 2, head.length() + 7);
        fault("line 2;claims:((((((1(", 2, 21);
        fault("line 2;claims:((((((not", 2, 20);
        fault("line 2;claims:(((((([", 2, 20);
        fault("line 2;claims:if [[[[[1=1 if", 2, 26);
        fault("line 2;claims:if not not not not not 1=1 [", 2, 41);
    }

    private static void faultOne() {
        DOC.says("1 no TOKEN begins so (4 digits and more: at their first).");
        fault("?", 1, 0);
        fault("line ?;", 1, 5);
        fault("line 2?", 1, 6);
        fault("line 2;claims:1/2;", 1, 15);
        fault("line 2;thing at 0,", 1, 17);
        fault("\"line 2;", 1, 0);
        fault("line 2;_", 1, 7);
        fault("line 1000;", 1, 5);
        fault("line 0000;", 1, 5);
        fault("line 2;wet " + "0".repeat(800), 1, 11);
        fault("line 2;claims:1+1000;", 1, 16);
        fault("line 2;claims:1+999;claims:12345x", 1, 27);
        GampLine x = new GampLine();
        x.feed(-1, -1, -1, -1, -1);
        due("a byte of 255", x.line(20), -31);
        x.feed(0, 0, 0, 0, 0);
        due("a byte of 0", x.line(20), -31);
        x.feed(0x80808080, 0, 0, 0, 0);
        due("a byte of 128", x.line(1), -31);
        due("its place", x.fault(1), 0);
    }

    private static void faultTwo() {
        DOC.says("2 it can't stand there (the end: the text's length;");
        fault("", 2, 0);
        fault("\n", 2, 1);
        fault("line", 2, 4);
        fault("line 2 \n ", 2, 9);
        fault("line 2;wet 3", 2, 12);
        fault("line 2;claims:if 1=1 then 1 else 1 end", 2, 38);
        GampLine x = new GampLine();
        Check.feed(x, "line 2;wet 3;?".getBytes(java.nio.charset.StandardCharsets.ISO_8859_1));
        due("a text that ends ahead of what is on THE TAPE", x.line(12), -32);
        due("its end", x.fault(1), 12);
        DOC.says("line must be told first, and once;");
        fault("thing at 0;", 2, 0);
        fault("wet 3;line 2;", 2, 0);
        fault("line 2;line 2;", 2, 7);
        fault("line 2;wet 1;line 3;", 2, 13);
        DOC.says("wet, borne in claims).");
        fault("line 2;claims:wet;", 2, 14);
        fault("line 2;claims:borne;", 2, 14);
        fault("line 2;claims:1+(2*borne);", 2, 19);
        fault("line 2;claims:if wet=1 then 1 else 2 end;", 2, 17);
        fault("line 2;opens:borne+wet;claims:1+wet;", 2, 32);
        fine("line 2;claims:1;opens:borne+wet;wet 1;", 4);
    }

    private static void faultThree() {
        DOC.says("3 an N out of its bounds (a THING that isn't told, one that somebody holds).");
        fault("line 9;", 3, 5);
        fault("line 3;thing at 3;", 3, 16);
        fault("line 3;person at 3;", 3, 17);
        fault("line 3;thing at 0 weight 1 hue 10;", 3, 31);
        fault("line 3;wet 11;", 3, 11);
        fault("line 3;thing at 0;person at 0 holds 1;", 3, 36);
        fault("line 3;thing at 0;person at 0 holds 999;", 3, 36);
        fault("line 3;thing at 0;person at 0 holds 0;person at 0 mark 1 holds 0;", 3, 63);
        fault("line 3;thing at 0;person at 0 holds 0 mark 2 holds 0;", 3, 51);
        // An N of a law has no other bounds than its digits.
        due("no bounds", claim("999-000"), 999);
    }

    private static void faultFour() {
        DOC.says("4 the first TOKEN of a 9th thing, a 7th person;");
        String eight = "line 2;" + "thing at 0;".repeat(8);
        fine(eight, 9);
        fault(eight + "thing at 0;", 4, 95);
        fault(eight + "thing", 4, 95);
        fault(eight + " wet 1; thing at 9", 4, 103);
        String six = "line 2;" + "person at 0;".repeat(6);
        fine(six, 7);
        fine(six + "thing at 0;", 8);
        fault(six + "person at 0;", 4, 79);
        fault(six + "person?", 4, 79);
        fine(eight + "person at 0;".repeat(6), 15);
        GampLine x = new GampLine();
        Check.tell(x, eight + "thing");
        due("all of them can be told in another text", Check.tell(x, eight + "person at 0;".repeat(6)), 15);
        DOC.says("a seventh of not [ ( if.");
        String[] sums = {"((((((", "(((((if ", "if if if if if if ", "if [[[[(", "if not not not not (", "if not [not [("};
        for (String ahead : sums) {
            for (String token : new String[] {"(", "if"}) {
                fault("line 2;opens:" + ahead + token, 4, 13 + ahead.length());
            }
            fault("line 2;opens:" + ahead, 2, 13 + ahead.length());
        }
        String[] truths = {"if [[[[[", "if not not not not not ", "(if [not [not ", "((((if not "};
        for (String ahead : truths) {
            for (String token : new String[] {"(", "if", "[", "not"}) {
                fault("line 2;opens:" + ahead + token, 4, 13 + ahead.length());
            }
            fault("line 2;opens:" + ahead, 2, 13 + ahead.length());
        }
        x = new GampLine();
        Check.tell(x, "line 2;claims:(((((((");
        due("six of them in another text", Check.tell(x, "line 2;claims:((((((1))))));"), 2);
    }
}
