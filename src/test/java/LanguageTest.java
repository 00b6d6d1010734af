import java.lang.reflect.Modifier;
import java.nio.charset.StandardCharsets;
import java.nio.file.Files;
import java.nio.file.Path;
import java.util.ArrayList;
import java.util.Arrays;
import java.util.List;
import java.util.TreeMap;
import java.util.TreeSet;
import java.util.regex.Matcher;
import java.util.regex.Pattern;

/** The rules of LANGUAGE.md, as far as the source's text shows them. */
public final class LanguageTest {
    private static final Check CHECK = new Check("LanguageTest");
    private static final String FACE = "feed line fault thing person claims burden seed leave fetch open swap mark days undo"
        + " judge perform season goes takes sources plan plans match matchings without fetches trade rounds traders bargain"
        + " opening openedBy inADay marks show game picks chance bearing numbers write lists image restore count";
    private static final Pattern METHOD = Pattern.compile(
        "^( +)((?:public |private |static |final )*)(int|long|void|boolean)(?:\\[\\])? (\\w+)\\(([^)]*)\\) \\{$");

    public static void main(String[] args) throws Exception {
        String text = Files.readString(Path.of("src/main/java/GampLine.java"), StandardCharsets.UTF_8);
        CHECK.isTrue("signs 1 to 127 alone", text.chars().allMatch(c -> c > 0 && c < 128));
        String code = text.replaceAll("(?s)/\\*.*?\\*/", "").replaceAll("//[^\n]*", "");
        String bare = code.replaceAll("\"[^\"\n]*\"", "\"\"");
        words(bare);
        imports(bare);
        statics(code);
        methods(code);
        classes(bare);
        depth(bare);
        CHECK.end();
    }

    private static void words(String bare) {
        String[] ruledOut = {"throw", "throws", "try", "catch", "finally", "synchronized", "assert", "package", "protected",
            "import static", "->", "::", "Object", "Exact", "random", "currentTimeMillis", "nanoTime", "Thread", "File",
            "native", "volatile", "transient", "hashCode", "toString", "System.out", "Scanner", "yield", "record", "sealed",
            "MIN_VALUE", "MAX_VALUE", "float", "double", "var", "instanceof", "goto"};
        for (String word : ruledOut) {
            boolean isWord = Character.isLetter(word.charAt(0));
            Matcher m = Pattern.compile(isWord ? "\\b" + word + (word.equals("Exact") ? "" : "\\b") : word).matcher(bare);
            CHECK.isTrue("no '" + word + "'", !m.find());
        }
        CHECK.isTrue("no joining of texts by +", !Pattern.compile("\"\"\\s*\\+|\\+\\s*\"\"").matcher(bare).find());
        Matcher library = Pattern.compile("\\b(Math|Integer|Long|Arrays|System)\\.(\\w+)").matcher(bare);
        List<String> fine = List.of("Math.max", "Math.min", "Math.floorMod", "Integer.bitCount", "Arrays.fill",
            "System.arraycopy");
        while (library.find()) {
            CHECK.isTrue("library: " + library.group(), fine.contains(library.group()));
        }
    }

    private static void imports(String bare) {
        Matcher m = Pattern.compile("import ([\\w.]+);").matcher(bare);
        while (m.find()) {
            CHECK.isTrue("import " + m.group(1), m.group(1).equals("java.util.Arrays"));
        }
    }

    private static void statics(String code) {
        for (String row : code.split("\n")) {
            if (row.contains("static") && row.contains("=")) {
                CHECK.isTrue("a constant: " + row.trim(),
                    row.matches(" +(public |private )?static final (int|long|boolean|char|String) [A-Z_]+ =.*"));
            }
        }
        CHECK.isTrue("no static block", !Pattern.compile("static\\s*\\{").matcher(code).find());
    }

    private static void methods(String code) {
        List<String> face = Arrays.asList(FACE.split(" "));
        List<String> seen = new ArrayList<>();
        String[] rows = code.split("\n");
        for (int i = 0; i < rows.length; i++) {
            Matcher m = METHOD.matcher(rows[i]);
            if (!m.matches()) {
                continue;
            }
            boolean isPublic = m.group(2).contains("public");
            if (isPublic) {
                seen.add(m.group(4));
            }
            CHECK.isTrue("name of " + m.group(4), isPublic == face.contains(m.group(4)));
            CHECK.isTrue("public or private in the class itself: " + m.group(4),
                m.group(1).length() > 4 || m.group(2).contains("public") || m.group(2).contains("private"));
            CHECK.isTrue("parameters of " + m.group(4), m.group(5).split(",").length <= 7);
            int end = i;
            while (!rows[end].equals(m.group(1) + "}")) {
                end++;
            }
            CHECK.isTrue("length of " + m.group(4), end - i < 60);
        }
        CHECK.isTrue("the face in its order", seen.equals(face));
    }

    private static void classes(String bare) {
        Matcher m = Pattern.compile("(?m)^( *)(.*)\\bclass (\\w+)").matcher(bare);
        int count = 0;
        while (m.find()) {
            count++;
            CHECK.isTrue("class " + m.group(3), m.group(2).trim().equals(m.group(1).isEmpty() ? "public final"
                : "private static final"));
        }
        CHECK.isTrue("classes: " + count, count <= 12);
        List<Class<?>> all = new ArrayList<>(List.of(GampLine.class));
        all.addAll(Arrays.asList(GampLine.class.getDeclaredClasses()));
        CHECK.due("classes by the machine", all.size(), count);
        for (Class<?> type : all) {
            long fields = Arrays.stream(type.getDeclaredFields()).filter(f -> !Modifier.isStatic(f.getModifiers())).count();
            CHECK.isTrue("fields of " + type + ": " + fields, fields <= 20);
        }
    }

    /** How deep calls go that are no recursion: by names, calls within one ring of recursion count once. */
    private static void depth(String bare) {
        TreeMap<String, TreeSet<String>> calls = new TreeMap<>();
        String inside = null;
        String type = "";
        for (String row : bare.split("\n")) {
            Matcher c = Pattern.compile("class (\\w+)").matcher(row);
            type = c.find() ? c.group(1) : type;
            Matcher m = METHOD.matcher(row);
            if (m.matches()) {
                inside = type + "." + m.group(4);
                calls.put(inside, new TreeSet<>());
            } else if (inside != null) {
                Matcher call = Pattern.compile("(?:(\\w+)(?:\\[[^]]*\\])?\\.)?\\b(\\w+)\\(").matcher(row);
                while (call.find()) {
                    calls.get(inside).add((call.group(1) == null ? type : "?") + "." + call.group(2));
                }
            }
        }
        int deepest = 0;
        for (String name : calls.keySet()) {
            deepest = Math.max(deepest, deep(calls, name, new ArrayList<>()));
        }
        CHECK.isTrue("calls go " + deepest + " deep", deepest <= 8);
    }

    private static int deep(TreeMap<String, TreeSet<String>> calls, String name, List<String> above) {
        if (above.contains(name)) {
            return 0;
        }
        above.add(name);
        boolean inRing = reaches(calls, name, name, new TreeSet<>());
        int most = 0;
        for (String called : calls.get(name)) {
            for (String other : calls.keySet()) {
                boolean same = called.startsWith("?") ? other.endsWith(called.substring(1)) : other.equals(called);
                if (same) {
                    boolean ring = inRing && reaches(calls, other, name, new TreeSet<>());
                    most = Math.max(most, deep(calls, other, above) - (ring ? 1 : 0));
                }
            }
        }
        above.remove(above.size() - 1);
        return most + 1;
    }

    private static boolean reaches(TreeMap<String, TreeSet<String>> calls, String from, String to, TreeSet<String> seen) {
        for (String called : calls.get(from)) {
            for (String other : calls.keySet()) {
                if (called.startsWith("?") ? other.endsWith(called.substring(1)) : other.equals(called)) {
                    if (other.equals(to) || seen.add(other) && reaches(calls, other, to, seen)) {
                        return true;
                    }
                }
            }
        }
        return false;
    }
}
