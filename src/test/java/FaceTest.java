import java.lang.reflect.Constructor;
import java.lang.reflect.Field;
import java.lang.reflect.Method;
import java.lang.reflect.Modifier;
import java.nio.charset.StandardCharsets;
import java.nio.file.Files;
import java.nio.file.Path;
import java.util.ArrayList;
import java.util.List;
import java.util.TreeSet;
import java.util.regex.Matcher;
import java.util.regex.Pattern;

/** The public face is the document's: each constant, constructor and method with its types, and none besides. */
public final class FaceTest {
    private static final Check CHECK = new Check("FaceTest");
    private static final Path DOCUMENT = Path.of("../shared/DOC.md");

    public static void main(String[] args) throws Exception {
        CHECK.due("NONE: There is none.", GampLine.NONE, -1);
        CHECK.isTrue("public and final", Modifier.toString(GampLine.class.getModifiers()).equals("public final"));
        CHECK.isTrue("without a package", GampLine.class.getPackageName().isEmpty());
        if (Files.exists(DOCUMENT)) {
            asTold(Files.readString(DOCUMENT, StandardCharsets.UTF_8));
        }
        noOthers();
        CHECK.end();
    }

    private static void asTold(String document) {
        String face = document.replaceAll("(?s).*```java(.*?)```.*", "$1");
        TreeSet<String> want = new TreeSet<>();
        Matcher m = Pattern.compile("public (int|long) (\\w+)\\(([^)]*)\\);").matcher(face);
        while (m.find()) {
            want.add(m.group(1) + " " + m.group(2) + "(" + m.group(3).replaceAll("(int|long) \\w+", "$1").replace(" ", "") + ")");
        }
        TreeSet<String> got = new TreeSet<>();
        for (Method method : GampLine.class.getDeclaredMethods()) {
            if (Modifier.isPublic(method.getModifiers())) {
                CHECK.isTrue("of an object: " + method.getName(), !Modifier.isStatic(method.getModifiers()));
                List<String> types = new ArrayList<>();
                for (Class<?> type : method.getParameterTypes()) {
                    types.add(type.getName());
                }
                got.add(method.getReturnType().getName() + " " + method.getName() + "(" + String.join(",", types) + ")");
            }
        }
        CHECK.due("methods told", want.size(), 46);
        CHECK.isTrue("the face " + got + " is " + want, got.equals(want));
    }

    private static void noOthers() {
        for (Field field : GampLine.class.getDeclaredFields()) {
            boolean isNone = field.getName().equals("NONE");
            CHECK.isTrue("public or private: " + field.getName(),
                isNone ? Modifier.isPublic(field.getModifiers()) : Modifier.isPrivate(field.getModifiers()));
        }
        Constructor<?>[] made = GampLine.class.getDeclaredConstructors();
        CHECK.due("constructors", made.length, 1);
        CHECK.due("its numbers", made[0].getParameterCount(), 0);
        for (Method method : GampLine.class.getDeclaredMethods()) {
            CHECK.isTrue("public or private: " + method.getName(), method.isSynthetic()
                || Modifier.isPublic(method.getModifiers()) || Modifier.isPrivate(method.getModifiers()));
        }
        for (Class<?> inside : GampLine.class.getDeclaredClasses()) {
            CHECK.isTrue("static, not public: " + inside.getName(), Modifier.isStatic(inside.getModifiers())
                && !Modifier.isPublic(inside.getModifiers()) && !Modifier.isProtected(inside.getModifiers()));
        }
    }
}
