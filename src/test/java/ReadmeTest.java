import java.lang.reflect.Constructor;
import java.lang.reflect.InvocationTargetException;
import java.lang.reflect.Method;
import java.lang.reflect.Modifier;
import java.net.URL;
import java.net.URLClassLoader;
import java.nio.charset.StandardCharsets;
import java.nio.file.Files;
import java.nio.file.Path;
import java.util.Comparator;
import java.util.List;
import java.util.regex.Matcher;
import java.util.regex.Pattern;
import java.util.stream.Collectors;
import java.util.stream.Stream;
import javax.tools.JavaCompiler;
import javax.tools.ToolProvider;

/** README.md tells the truth: its code compiles, and each call answers what stands behind it; no call is left out. */
public final class ReadmeTest {
    private static final Check CHECK = new Check("ReadmeTest");
    private static final Pattern ANSWERED = Pattern.compile("(?m)^(x\\.\\w+\\(.*\\)|tell\\(x, \"(?s:.*?)\\));? // (-?\\d+)");

    public static void main(String[] args) throws Exception {
        String readme = Files.readString(Path.of("README.md"), StandardCharsets.UTF_8);
        namesAll(readme);
        StringBuilder helpers = new StringBuilder();
        StringBuilder statements = new StringBuilder();
        Matcher block = Pattern.compile("(?s)```java\n(.*?)```").matcher(readme);
        while (block.find()) {
            (block.group(1).startsWith("static ") ? helpers : statements).append(block.group(1));
        }
        String calls = withAnswersDue(statements.toString());
        // Where java comes without a compiler of its own, there is none to ask.
        if (ToolProvider.getSystemJavaCompiler() != null) {
            run(helpers.toString(), calls);
        }
        CHECK.end();
    }

    private static void namesAll(String readme) {
        for (Method method : GampLine.class.getDeclaredMethods()) {
            if (Modifier.isPublic(method.getModifiers())) {
                CHECK.isTrue(method.getName() + " is named", Pattern.compile("\\b" + method.getName() + "[(`]").matcher(readme).find());
            }
        }
        for (String part : List.of("Making an object", "Asking", "Doing, undoing", "Trays", "Images",
                "What answers below 0 mean", "How to run its tests")) {
            CHECK.isTrue("a part: " + part, readme.contains("## " + part));
        }
    }

    /** Each call with an answer behind it becomes one that sets both against one another. */
    private static String withAnswersDue(String code) {
        Matcher m = ANSWERED.matcher(code);
        int[] found = {0};
        String due = m.replaceAll(call -> {
            found[0]++;
            return Matcher.quoteReplacement("check.due(\"answer " + found[0] + " of README.md\", "
                + call.group(1) + ", " + call.group(2) + "L); // ");
        });
        long told = code.lines().filter(row -> row.contains(" // ")).count();
        CHECK.due("calls with an answer", found[0], told);
        return due;
    }

    private static void run(String helpers, String statements) throws Exception {
        Path dir = Files.createTempDirectory("readme");
        try {
            Path source = dir.resolve("ReadmeCalls.java");
            Files.writeString(source, "final class ReadmeCalls {\n" + helpers + "static void calls(Check check) {\n" + statements + "}\n}\n");
            JavaCompiler javac = ToolProvider.getSystemJavaCompiler();
            int code = javac.run(null, null, null, "-cp", System.getProperty("java.class.path"), "-d", dir.toString(), source.toString());
            CHECK.due("README.md's code compiles", code, 0);
            if (code == 0) {
                callAll(dir);
            }
        } finally {
            try (Stream<Path> files = Files.walk(dir)) {
                for (Path file : files.sorted(Comparator.reverseOrder()).collect(Collectors.toList())) {
                    Files.delete(file);
                }
            }
        }
    }

    private static void callAll(Path dir) throws Exception {
        // A class of another loader can't see Check, which isn't public: the same loader has to find both.
        URL[] places = {dir.toUri().toURL(), Path.of(System.getProperty("java.class.path")).toUri().toURL()};
        try (URLClassLoader loader = new URLClassLoader(places, null)) {
            Class<?> check = Class.forName("Check", true, loader);
            Constructor<?> made = check.getDeclaredConstructor(String.class);
            made.setAccessible(true);
            Object its = made.newInstance("README.md");
            Method calls = Class.forName("ReadmeCalls", true, loader).getDeclaredMethod("calls", check);
            calls.setAccessible(true);
            calls.invoke(null, its);
            Method end = check.getDeclaredMethod("end");
            end.setAccessible(true);
            end.invoke(its);
        } catch (InvocationTargetException thrown) {
            CHECK.isTrue("README.md's code threw " + thrown.getCause(), false);
        }
    }
}
