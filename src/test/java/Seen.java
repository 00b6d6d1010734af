/** All that calls tell of an object, so that two of them can be set against one another. */
final class Seen {
    private Seen() {
    }

    /** The line and where all is, but for x: so much of an image can be seen without any change. */
    static String line(GampLine x) {
        StringBuilder s = new StringBuilder();
        for (int what : new int[] {0, 1, 2, 3, 4, 5, 6, 9}) {
            s.append(x.count(what)).append(' ');
        }
        for (int t = 0; t < x.count(1); t++) {
            for (int what = 0; what < 4; what++) {
                s.append(x.thing(t, what)).append(' ');
            }
            for (int p = 0; p < x.count(2); p++) {
                s.append(x.claims(p, t)).append(' ').append(x.burden(p, t)).append(' ');
            }
        }
        for (int p = 0; p < x.count(2); p++) {
            for (int what = 0; what < 5; what++) {
                s.append(x.person(p, what)).append(' ');
            }
        }
        return s.toString();
    }

    /** What can be asked without any change: all but x and what each undoing brings back. */
    static String of(GampLine x) {
        StringBuilder s = new StringBuilder(line(x));
        s.append(x.count(7)).append(' ').append(x.count(8)).append(' ');
        for (int tray = 0; tray < 4; tray++) {
            for (int what = 0; what < 4; what++) {
                s.append(x.judge(tray, what)).append(' ');
            }
            s.append(x.chance(tray, 0, 0)).append(' ').append(x.marks(tray, 0)).append(' ');
        }
        return s.append(x.fault(0)).append(' ').append(x.fault(1)).append('\n').toString();
    }

    /** All there is, x and each call that can be undone, too; nothing can be undone then. */
    static String whole(GampLine x) {
        StringBuilder s = new StringBuilder(of(x));
        s.append(x.seed(0)).append(' ').append(x.undo(1)).append('\n');
        for (int i = 0; i < 10 && x.count(7) > 0; i++) {
            s.append(x.undo(1)).append(' ').append(of(x));
            s.append(x.seed(0)).append(' ').append(x.undo(1)).append('\n');
        }
        for (int i = 0; i < 2; i++) {
            s.append(x.restore(i)).append(' ').append(of(x));
        }
        return s.toString();
    }
}
