import java.lang.reflect.Array;
import java.lang.reflect.Field;
import java.lang.reflect.InvocationTargetException;
import java.lang.reflect.Method;
import java.lang.reflect.Modifier;
import java.util.ArrayList;
import java.util.IdentityHashMap;
import java.util.List;
import java.util.Random;

/** Calls with any numbers: none throws, a refused one changes nothing, and none of them makes objects that stay. */
public final class WildCallsTest {
    private static final Check CHECK = new Check("WildCallsTest");
    private static final int[] ODD = {0, 1, 2, 3, 4, 5, 6, 7, 8, 9, 10, 15, 16, 17, 39, 40, 41, 89, 98, 99, 100, 255, 256, 880,
        900, 901, -1, -2, -10, -89, Integer.MAX_VALUE, Integer.MIN_VALUE, Integer.MAX_VALUE - 1, Integer.MIN_VALUE + 10};
    private static final String[] LINES = {
        "line 8;" + "thing at 0 weight 9;".repeat(8) + "person at 7 holds 0;person at 7 holds 1;person at 6 holds 7;"
            + "person at 1 bears 99;person at 2 bears 99;person at 3 bears 0;claims:thing*who-weight;opens:borne+wet+1;wet 5;",
        "line 2;", "line 2;thing at 0;", "line 2;person at 1;",
        "line 3;thing at 2 hue 9;thing at 0;person at 1 mark 9 holds 0 bears 50;person at 2;opens:weight-5*borne;",
    };

    public static void main(String[] args) throws Exception {
        List<Method> calls = new ArrayList<>();
        for (Method m : GampLine.class.getDeclaredMethods()) {
            if (Modifier.isPublic(m.getModifiers())) {
                calls.add(m);
            }
        }
        CHECK.due("calls of the face", calls.size(), 46);
        calls.sort((a, b) -> a.getName().compareTo(b.getName()));
        for (int run = 0; run < 60; run++) {
            wildRun(calls, new Random(run));
        }
        room();
        CHECK.end();
    }

    private static void wildRun(List<Method> calls, Random random) throws Exception {
        GampLine x = new GampLine();
        for (int i = 0; i < 500; i++) {
            if (random.nextInt(100) == 0) {
                Check.tell(x, LINES[random.nextInt(LINES.length)]);
            }
            Method m = calls.get(random.nextInt(calls.size()));
            Object[] numbers = new Object[m.getParameterCount()];
            for (int k = 0; k < numbers.length; k++) {
                int odd = ODD[random.nextInt(random.nextBoolean() ? 10 : ODD.length)];
                numbers[k] = m.getParameterTypes()[k] == long.class ? (Object) (long) odd : (Object) odd;
            }
            String before = Seen.of(x);
            try {
                long answer = ((Number) m.invoke(x, numbers)).longValue();
                boolean refused = answer <= -2 && !m.getName().equals("seed") && !m.getName().equals("write")
                    && !m.getName().equals("line");
                if (refused) {
                    CHECK.isTrue("a refused " + m.getName() + " changes nothing", before.equals(Seen.of(x)));
                }
            } catch (InvocationTargetException e) {
                e.printStackTrace();
                CHECK.isTrue(m.getName() + " throws " + e.getCause(), false);
            }
        }
    }

    /** One object is small enough for hundreds of them in one room, and grows by no call. */
    private static void room() throws Exception {
        GampLine x = new GampLine();
        long[] first = size(x);
        Check.tell(x, LINES[0]);
        for (int i = 0; i < 50; i++) {
            x.seed(i);
            x.days(3);
            x.opening(4, 255);
            x.match(0);
            x.trade(0);
            x.image(i & 1);
            x.numbers(i & 3, 3, 40);
        }
        long[] then = size(x);
        CHECK.due("objects stay as many", then[0], first[0]);
        CHECK.due("elements stay as many", then[1], first[1]);
        CHECK.isTrue("few objects: " + then[0], then[0] <= 160);
        CHECK.isTrue("few elements: " + then[1], then[1] <= 14000);
    }

    private static long[] size(Object root) throws Exception {
        IdentityHashMap<Object, Boolean> known = new IdentityHashMap<>();
        List<Object> open = new ArrayList<>(List.of(root));
        known.put(root, true);
        long elements = 0;
        while (!open.isEmpty()) {
            Object o = open.remove(open.size() - 1);
            List<Object> parts = new ArrayList<>();
            if (o.getClass().isArray()) {
                elements += Array.getLength(o);
                for (int i = 0; o instanceof Object[] && i < Array.getLength(o); i++) {
                    parts.add(Array.get(o, i));
                }
            } else {
                for (Field f : o.getClass().getDeclaredFields()) {
                    if (!Modifier.isStatic(f.getModifiers())) {
                        elements++;
                        f.setAccessible(true);
                        if (!f.getType().isPrimitive()) {
                            parts.add(f.get(o));
                        }
                    }
                }
            }
            for (Object part : parts) {
                if (part != null && known.put(part, true) == null) {
                    open.add(part);
                }
            }
        }
        return new long[] {known.size(), elements};
    }
}
