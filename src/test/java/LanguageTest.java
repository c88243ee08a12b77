import java.io.IOException;
import java.lang.reflect.Constructor;
import java.lang.reflect.Field;
import java.lang.reflect.Method;
import java.lang.reflect.Modifier;
import java.nio.file.Files;
import java.nio.file.Path;
import java.util.Set;
import java.util.TreeSet;
import java.util.regex.Pattern;

/** What can be seen of the rules of LANGUAGE.md from outside; run in the project's folder. */
public final class LanguageTest {
    private static final Set<String> CALLS = Set.of("type", "clear", "acts", "act", "feud", "tune", "family", "place",
            "empty", "rest", "on", "minute", "staged", "night", "worth", "best", "custom", "when", "ill", "halves",
            "tryout", "mark", "parted", "opener", "hold", "drawn", "lot", "rate", "keep", "back", "count", "trace");
    private static final Set<String> CONSTANTS = Set.of("BAD", "STATE", "FULL", "NONE", "NO");
    private static final String[] FORBIDDEN = {"\\bthrow\\b", "\\bthrows\\b", "\\btry\\b", "\\bcatch\\b",
        "\\bsynchronized\\b", "\\bassert\\b", "\\bimport\\b", "\\bpackage\\b", "->", "::", "\\bdouble\\b",
        "\\bfloat\\b", "Exact\\b", "\\bSystem\\.[a-z]*(nano|current|out|err)", "static \\{", "\\bhashCode\\b",
        "\\btoString\\b", "\" *\\+", "\\+ *\""};
    private static final Check c = new Check();

    public static void main(String[] args) throws IOException {
        face();
        for (Class<?> inside : NineActs.class.getDeclaredClasses()) {
            inside(inside);
        }
        c.due("some twelve classes", NineActs.class.getDeclaredClasses().length <= 12 ? 1 : 0, 1);
        source(Files.readString(Path.of("src/main/java/NineActs.java")));
        c.end();
    }

    private static void face() {
        c.due("public and final", NineActs.class.getModifiers(), Modifier.PUBLIC | Modifier.FINAL);
        Set<String> calls = new TreeSet<>();
        for (Method method : NineActs.class.getDeclaredMethods()) {
            if (Modifier.isPublic(method.getModifiers())) {
                calls.add(method.getName());
            } else {
                c.due(method + " is private", method.getModifiers() & Modifier.PRIVATE, Modifier.PRIVATE);
                c.due(method + " has a name of its own", CALLS.contains(method.getName()) ? 1 : 0, 0);
            }
            parameters(method);
        }
        c.due("the document's calls " + calls, calls.equals(CALLS) ? 1 : 0, 1);
        for (Constructor<?> constructor : NineActs.class.getDeclaredConstructors()) {
            c.due("the constructor", constructor.getParameterCount(), 0);
        }
        for (Field field : NineActs.class.getDeclaredFields()) {
            boolean open = !Modifier.isPrivate(field.getModifiers());
            c.due(field + " is as it may be seen", open ? 1 : 0, CONSTANTS.contains(field.getName()) ? 1 : 0);
        }
        fields(NineActs.class);
    }

    private static void inside(Class<?> inside) {
        c.due(inside + " is static", inside.getModifiers() & Modifier.STATIC, Modifier.STATIC);
        for (Method method : inside.getDeclaredMethods()) {
            c.due(method + " has a name of its own", CALLS.contains(method.getName()) ? 1 : 0, 0);
            parameters(method);
        }
        fields(inside);
    }

    private static void parameters(Method method) {
        c.due(method + " takes seven at most", method.getParameterCount() <= 7 ? 1 : 0, 1);
    }

    private static void fields(Class<?> type) {
        int own = 0;
        for (Field field : type.getDeclaredFields()) {
            if (Modifier.isStatic(field.getModifiers())) {
                c.due(field + " is final", field.getModifiers() & Modifier.FINAL, Modifier.FINAL);
            } else {
                own++;
            }
        }
        c.due(type + " has some twenty fields", own <= 20 ? 1 : 0, 1);
    }

    private static void source(String source) {
        c.due("signs 1 to 127", source.chars().allMatch(sign -> sign > 0 && sign < 128) ? 1 : 0, 1);
        String code = source.replaceAll("(?s)/\\*.*?\\*/", "").replaceAll("//[^\n]*", "");
        for (String forbidden : FORBIDDEN) {
            c.due("uses " + forbidden, Pattern.compile(forbidden).matcher(code).find() ? 1 : 0, 0);
        }
        int begun = 0;
        String[] lines = code.split("\n");
        for (int k = 0; k < lines.length; k++) {
            if (lines[k].matches(" {4,8}\\S.*\\) \\{")) {
                begun = k;
            }
            if (lines[k].matches(" {4,8}\\}")) {
                c.due("the method that ends at " + k + " is short", k - begun <= 60 || begun == 0 ? 1 : 0, 1);
                begun = 0;
            }
        }
    }
}
