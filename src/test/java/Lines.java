/** Lines that tests are told: who claims what as a table, who holds what, what has to be opened. */
final class Lines {
    private Lines() {
    }

    /** A law by which person p claims thing t as much as stands there. */
    private static String law(int[][] claims) {
        StringBuilder s = new StringBuilder("claims:0");
        for (int p = 0; p < claims.length; p++) {
            for (int t = 0; t < claims[p].length; t++) {
                int v = claims[p][t];
                if (v != 0) {
                    s.append(v < 0 ? "-" : "+").append("if who*8+thing=").append(8 * p + t).append(" then ")
                        .append(Math.abs(v)).append(" else 0 end");
                }
            }
        }
        return s.append(';').toString();
    }

    static GampLine claiming(int[][] claims) {
        int[] none = new int[claims.length];
        java.util.Arrays.fill(none, -1);
        return holding(none, claims);
    }

    /** As claiming(), but person p holds thing held[p], none if it is below 0. */
    static GampLine holding(int[] held, int[][] claims) {
        StringBuilder s = new StringBuilder("line 2;" + "thing at 0;".repeat(claims[0].length));
        for (int t : held) {
            s.append("person at 0").append(t < 0 ? "" : " holds " + t).append(';');
        }
        return Check.told(s + law(claims));
    }

    /** Person 0 bears so much; things are so heavy, if the law doesn't tell else. */
    static GampLine opener(String law, int bears, int... weights) {
        StringBuilder s = new StringBuilder("line 2;");
        for (int w : weights) {
            s.append("thing at 0 weight ").append(w).append(';');
        }
        return Check.told(s + "person at 0 bears " + bears + ";" + law);
    }
}
