import java.nio.charset.StandardCharsets;

/** What the tests share: answers that are due, and texts told to a line. */
final class Check {
    private final String name;
    private int wrong;
    private int all;

    Check(String name) {
        this.name = name;
    }

    void due(String call, long got, long want) {
        all++;
        if (got != want) {
            wrong++;
            if (wrong <= 40) {
                System.out.println(name + ": " + call + " answered " + got + ", due is " + want);
            }
        }
    }

    void isTrue(String what, boolean holds) {
        due(what, holds ? 1 : 0, 1);
    }

    /** Ends the test: exit code 1 if an answer was wrong. */
    void end() {
        System.out.println(name + ": " + all + " answers, " + wrong + " wrong");
        if (wrong != 0) {
            System.exit(1);
        }
    }

    static void feed(GampLine x, byte[] text) {
        int[] four = new int[5];
        for (int from = 0; from < text.length; from += 20) {
            for (int i = 0; i < 5; i++) {
                four[i] = 0;
                for (int k = 0; k < 4; k++) {
                    int at = from + 4 * i + k;
                    four[i] = four[i] << 8 | (at < text.length ? text[at] & 255 : 32);
                }
            }
            x.feed(four[0], four[1], four[2], four[3], four[4]);
        }
    }

    static int tell(GampLine x, String text) {
        byte[] bytes = text.getBytes(StandardCharsets.ISO_8859_1);
        feed(x, bytes);
        return x.line(bytes.length);
    }

    static GampLine told(String text) {
        GampLine x = new GampLine();
        int code = tell(x, text);
        if (code < 0) {
            throw new IllegalStateException("not a line: " + text + " (" + code + " at " + x.fault(1) + ")");
        }
        return x;
    }

    static void fill(GampLine x, int tray, int sort, long... numbers) {
        if (x.numbers(tray, sort, numbers.length) != 0) {
            throw new IllegalStateException("no tray");
        }
        for (int i = 0; i < numbers.length; i++) {
            x.write(tray, i, numbers[i]);
        }
    }
}
