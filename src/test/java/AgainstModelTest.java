import java.lang.reflect.Method;
import java.nio.charset.StandardCharsets;
import java.util.Random;
import java.util.TreeMap;

/** Runs of calls by chance, each answered by GampLine and by the slow model alike: promises 1 to 47. */
public final class AgainstModelTest {
    private static final Check CHECK = new Check("AgainstModelTest");
    private static final int RUNS = Integer.getInteger("runs", 300);
    private static final long SEED = Long.getLong("seed", 20261118L);

    /** Of what kind each call's numbers are, so that most of them are such as can be. */
    private static final String[] KINDS = {
        "fault w", "thing tw", "person pw", "claims pt", "burden pt", "seed x", "leave p", "fetch pt", "open p",
        "swap pp", "mark pm", "days d", "undo u", "judge rw", "perform r", "season xd", "goes ts", "takes ts",
        "sources tp", "plan rw", "plans r", "match M", "matchings ", "without ", "fetches tw", "trade p", "rounds ",
        "traders ", "bargain ", "opening pS", "openedBy pSw", "inADay pS", "marks rp", "show rp", "game ppS",
        "picks ppS", "chance rpb", "bearing rpc", "numbers rrw", "write rwx", "lists rpS", "image b", "restore b",
        "count w",
    };

    private final Random random;
    private final GampLine x = new GampLine();
    private final Model model = new Model();
    private final StringBuilder story = new StringBuilder();
    private int calls;

    private AgainstModelTest(long seed) {
        random = new Random(seed);
    }

    public static void main(String[] args) throws Exception {
        for (int run = 0; run < RUNS; run++) {
            new AgainstModelTest(SEED + run).run();
        }
        if (!TALLY.isEmpty()) {
            TALLY.forEach((name, answers) -> System.out.println(name + " " + answers));
        }
        CHECK.end();
    }

    private void run() throws Exception {
        tellLine();
        while (calls < 480) {
            int what = random.nextInt(40);
            if (what == 0 && random.nextInt(3) == 0) {
                tellLine();
            } else if (what < 4) {
                fillTray();
            } else {
                String[] kind = KINDS[random.nextInt(KINDS.length)].split(" ", 2);
                Object[] args = new Object[kind[1].length()];
                for (int i = 0; i < args.length; i++) {
                    args[i] = number(kind[1].charAt(i));
                }
                if (kind[0].equals("write")) {
                    args[2] = random.nextInt(4) == 0 ? random.nextLong() : (long) random.nextInt(400) - 2;
                }
                ask(kind[0], args);
            }
        }
    }

    private int number(char kind) {
        if (random.nextInt(40) == 0) {
            int[] odd = {-1, -2, 6, 8, 9, 10, 11, 16, 20, 40, 41, 89, 99, 100, 101, 256, Integer.MAX_VALUE,
                Integer.MIN_VALUE, 1 << 30, -10};
            return odd[random.nextInt(odd.length)];
        }
        int people = Math.max(1, model.count(2));
        int things = Math.max(1, model.count(1));
        return switch (kind) {
            case 'p' -> random.nextInt(people);
            case 't' -> random.nextInt(things);
            case 's' -> random.nextInt(model.count(0));
            case 'S' -> random.nextInt(1 << (random.nextInt(12) == 0 ? things : Math.min(things, 6)));
            case 'r' -> random.nextInt(4);
            case 'w' -> random.nextInt(random.nextBoolean() ? 4 : 10);
            case 'm' -> random.nextInt(10);
            case 'M' -> random.nextInt(3) == 0 ? 0 : 10 + random.nextInt(people);
            case 'd' -> 1 + random.nextInt(random.nextBoolean() ? 3 : 40);
            case 'u' -> 1 + random.nextInt(random.nextBoolean() ? 2 : 10);
            case 'b' -> random.nextInt(2);
            case 'c' -> random.nextInt(101);
            default -> random.nextInt();
        };
    }

    private void ask(String name, Object... args) throws Exception {
        calls++;
        Class<?>[] types = new Class<?>[args.length];
        StringBuilder call = new StringBuilder(name).append('(');
        for (int i = 0; i < args.length; i++) {
            types[i] = args[i] instanceof Long ? long.class : int.class;
            call.append(i > 0 ? ", " : "").append(args[i]);
        }
        call.append(')');
        long got = ((Number) GampLine.class.getMethod(name, types).invoke(x, args)).longValue();
        Method mine = Model.class.getMethod(name, types);
        long want = ((Number) mine.invoke(model, args)).longValue();
        if (Boolean.getBoolean("tally")) {
            TALLY.computeIfAbsent(name, k -> new TreeMap<>()).merge(want, 1, Integer::sum);
        }
        story.append(call).append(" = ").append(want).append('\n');
        if (got != want && Boolean.getBoolean("story")) {
            System.out.println(story);
        }
        CHECK.due(call + " after " + calls + " calls", got, want);
    }

    static final TreeMap<String, TreeMap<Long, Integer>> TALLY = new TreeMap<>();

    private void fillTray() throws Exception {
        int tray = random.nextInt(4);
        int kind = random.nextInt(4);
        int size = 1 + random.nextInt(kind == 0 ? 3 : kind == 1 ? 16 : kind == 2 ? 10 : 24);
        if (random.nextInt(25) == 0) {
            size = random.nextInt(41);
        }
        ask("numbers", tray, kind == 3 || random.nextBoolean() ? 1 + random.nextInt(3) : 0, size);
        int people = Math.max(1, model.count(2));
        int things = Math.max(1, model.count(1));
        int[] thingOf = random.ints(0, things).distinct().limit(things).toArray();
        int[] personOf = random.ints(0, people).distinct().limit(people).toArray();
        int likely = random.nextInt(10);
        for (int i = 0; i < size && calls < 500; i++) {
            long v = switch (kind) {
                case 0 -> 10L * thingOf[i % things] + personOf[i % people];
                case 1 -> {
                    int t = random.nextInt(things);
                    yield 2L * t + (t % 2 == likely % 2 ? 1 : 0);
                }
                case 2 -> random.nextInt(things);
                default -> deed(people, things);
            };
            ask("write", tray, i, random.nextInt(60) == 0 ? random.nextInt(500) - 20L : v);
        }
        switch (kind) {
            case 0 -> {
                ask("plans", tray);
                ask("plan", tray, random.nextInt(size + 1));
            }
            case 1 -> {
                ask("marks", tray, random.nextInt(people));
                ask("show", tray, random.nextInt(people));
            }
            case 2 -> {
                int p = random.nextInt(people);
                ask("chance", tray, p, 0);
                ask("chance", tray, p, 1);
                ask("bearing", tray, p, random.nextInt(101));
            }
            default -> {
                for (int what = 0; what < 4; what++) {
                    ask("judge", tray, what);
                }
                ask("perform", tray);
            }
        }
    }

    private long deed(int people, int things) {
        return switch (random.nextInt(7)) {
            case 0 -> random.nextInt(people);
            case 1 -> 10 + random.nextInt(people);
            case 2 -> 100 + 10 * random.nextInt(people) + random.nextInt(things);
            case 3 -> 200 + 10 * random.nextInt(people) + random.nextInt(people);
            case 4 -> 300 + 10 * random.nextInt(people) + random.nextInt(10);
            default -> -1;
        };
    }

    private void tellLine() throws Exception {
        String text = text();
        if (random.nextInt(3) == 0) {
            text = spoilt(text);
        }
        if (text.length() > 900) {
            text = text.substring(0, 900);
        }
        story.append("text ").append(text).append('\n');
        byte[] bytes = (text + " ".repeat(20)).getBytes(StandardCharsets.ISO_8859_1);
        for (int from = 0; from < text.length(); from += 20) {
            Object[] four = new Object[5];
            for (int i = 0; i < 5; i++) {
                four[i] = java.nio.ByteBuffer.wrap(bytes).getInt(from + 4 * i);
            }
            ask("feed", four);
        }
        ask("line", text.length());
        ask("fault", 0);
        ask("fault", 1);
        ask("count", 9);
    }

    private String spoilt(String text) {
        StringBuilder s = new StringBuilder(text);
        int times = 1 + random.nextInt(2);
        for (int i = 0; i < times && s.length() > 0; i++) {
            int at = random.nextInt(s.length());
            String[] parts = {";", ":", "(", ")", "[", "]", " if ", " then ", " else ", " end ", " not ", " 0", "999 ",
                "1234", "?", "\u00ff", " wet ", " borne ", "+", "-", "*", "=", "<", " thing at 0;", " person at 1;",
                " holds 0", " holds 1 ", "\n", " ", "10", "8", "line 2;", " and ", " or ", "not not not not not ",
                "((((((", "[[[[[", " thing at 1;thing at 0;thing at 0 ;", "person at 1;person at 0;person at 0;",
                "if not not not [[[ 1=1", "(((((if 1=(", "(((((((", "0001"};
            switch (random.nextInt(5)) {
                case 0 -> s.deleteCharAt(at);
                case 3, 4 -> spoilNumber(s, at);
                case 1 -> s.insert(at, parts[random.nextInt(parts.length)]);
                default -> s.setLength(random.nextInt(4) == 0 ? at : s.length());
            }
        }
        return s.toString();
    }

    private void spoilNumber(StringBuilder s, int from) {
        for (int at = from; at < s.length(); at++) {
            if (Character.isDigit(s.charAt(at))) {
                s.replace(at, at + 1, Integer.toString(random.nextInt(random.nextBoolean() ? 12 : 120)));
                return;
            }
        }
    }

    private String text() {
        StringBuilder s = new StringBuilder("line ");
        int stations = 2 + random.nextInt(7);
        s.append(stations).append(';');
        int things = random.nextInt(5) == 0 ? random.nextInt(9) : 3 + random.nextInt(6);
        for (int t = 0; t < things; t++) {
            s.append("thing at ").append(random.nextInt(random.nextBoolean() ? stations : 2));
            s.append(" hue ").append(random.nextInt(random.nextBoolean() ? 10 : 3));
            s.append(" weight ").append(random.nextInt(10)).append(';');
        }
        int people = random.nextInt(5) == 0 ? random.nextInt(7) : 2 + random.nextInt(5);
        int[] free = random.ints(0, Math.max(1, things)).distinct().limit(Math.max(1, things)).toArray();
        int used = 0;
        for (int p = 0; p < people; p++) {
            s.append("person at ").append(random.nextInt(stations));
            s.append(random.nextInt(4) == 0 ? "" : " mark " + random.nextInt(random.nextBoolean() ? 10 : 3));
            s.append(random.nextInt(3) == 0 ? "" : " bears " + random.nextInt(random.nextBoolean() ? 100 : 20));
            if (used < things && random.nextInt(3) > 0) {
                s.append(" holds ").append(free[used]);
                used++;
            }
            s.append(';');
        }
        if (random.nextInt(8) == 0) {
            s.append(random.nextBoolean() ? "thing at 0;".repeat(random.nextInt(6)) : "person at 1;".repeat(4));
        }
        if (random.nextInt(6) == 0) {
            s.append("opens:").append(deep(4 + random.nextInt(5), true)).append(';');
        }
        if (random.nextInt(4) > 0) {
            s.append("wet ").append(random.nextInt(11)).append(';');
        }
        if (random.nextInt(5) > 0) {
            s.append("claims:").append(random.nextBoolean() ? sum(false, 3) : mixed(false)).append(';');
        }
        if (random.nextInt(5) > 0) {
            s.append("opens:").append(random.nextBoolean() ? sum(true, 3) : mixed(true)).append(';');
        }
        return s.toString();
    }

    /** So many parts within one another, some beside one another too. */
    private String deep(int depth, boolean isSum) {
        if (depth <= 0) {
            return isSum ? atom(true, 0) : "wet=1";
        }
        String beside = random.nextInt(4) > 0 ? "" : isSum ? "*(borne)" : " or not 1>hue";
        if (!isSum) {
            String part = switch (random.nextInt(3)) {
                case 0 -> "not " + deep(depth - 1, false);
                case 1 -> "[" + deep(depth - 1, false) + "]";
                default -> deep(depth, true) + "<3";
            };
            return part + beside;
        }
        return (random.nextBoolean() ? "(" + deep(depth - 1, true) + ")"
            : random.nextBoolean() ? "if " + deep(depth - 1, false) + " then 4 else weight end"
            : "if hue=1 then 5 else " + deep(depth - 1, true) + " end") + beside;
    }

    /** A law that tells people and things apart, so that there is something to match, to trade, to put in order. */
    private String mixed(boolean opens) {
        String[] claims = {
            "(who*N-thing*N+N)*(mark-hue)-N", "N-(thing-who)*(thing-who)", "if (thing-who)*(thing-N)>N then N else hue end",
            "(hue-mark)*(weight-who)*N+thing", "N*if who<thing then mark else weight end-N", "N+thing*who-mark*N",
            "(thing-N)*(who-N)*(hue+mark-N)", "if hue>mark then who*N else N-weight end",
        };
        String[] burdens = {
            "weight+wet*N", "weight+if borne>N then N else 0 end", "if borne=0 then N else weight end+wet*weight",
            "N-borne+weight*wet", "(borne-N)*(thing-N)+wet*N", "if borne<N then weight else thing+wet end",
        };
        String[] all = opens ? burdens : claims;
        StringBuilder s = new StringBuilder();
        for (char c : all[random.nextInt(all.length)].toCharArray()) {
            s.append(c == 'N' ? Integer.toString(random.nextInt(9)) : Character.toString(c));
        }
        return s.toString();
    }

    private String sum(boolean opens, int depth) {
        StringBuilder s = new StringBuilder(atom(opens, depth));
        int more = random.nextInt(depth + 1);
        for (int i = 0; i < more; i++) {
            s.append(" ").append("+-*+-".charAt(random.nextInt(5))).append(random.nextBoolean() ? " " : "");
            s.append(atom(opens, depth));
        }
        return s.toString();
    }

    private String atom(boolean opens, int depth) {
        int kind = random.nextInt(depth > 0 ? 12 : 8);
        if (kind < 3) {
            return Integer.toString(random.nextInt(random.nextInt(5) == 0 ? 1000 : 12));
        }
        if (kind < 8) {
            String[] words = {"who", "mark", "thing", "hue", "weight", "wet", "borne"};
            return words[random.nextInt(opens ? 7 : 5)];
        }
        if (kind < 10) {
            return "(" + sum(opens, depth - 1) + ")";
        }
        return "if " + truth(opens, depth - 1) + " then " + sum(opens, depth - 1) + " else " + sum(opens, depth - 1)
            + " end";
    }

    private String truth(boolean opens, int depth) {
        int kind = random.nextInt(depth > 0 ? 8 : 4);
        if (kind < 4) {
            return sum(opens, depth) + " " + "=<>".charAt(random.nextInt(3)) + " " + sum(opens, depth);
        }
        if (kind == 4) {
            return "not " + truth(opens, depth - 1);
        }
        if (kind == 5) {
            return "[" + truth(opens, depth - 1) + "]";
        }
        return truth(opens, depth - 1) + (random.nextBoolean() ? " and " : " or ") + truth(opens, depth - 1);
    }
}
