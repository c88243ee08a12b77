import java.io.IOException;
import java.lang.reflect.Field;
import java.lang.reflect.Method;
import java.lang.reflect.Modifier;
import java.nio.file.Files;
import java.nio.file.Path;
import java.util.regex.Matcher;
import java.util.regex.Pattern;

/** README.md tells all of the face, and its calls answer what stands behind them. */
public final class ReadmeTest {
    private static final Pattern WRITE = Pattern.compile("write\\(x, \"([^\"]*)\"\\);");
    private static final Pattern CALL = Pattern.compile("x\\.(\\w+)\\(([^)]*)\\); +// (-?\\d+)(:.*)?");
    // A use of x that is neither of both would go untested: it is counted as a fault of this page.
    private static final Pattern ANY_USE = Pattern.compile("(x\\.\\w+\\(|write\\(x).*");
    private static final int FEWEST_CALLS = 20;
    private static final Check c = new Check();

    public static void main(String[] args) throws IOException, ReflectiveOperationException {
        String page = Files.readString(Path.of("README.md"));
        face(page);
        constants(page);
        example(page);
        tests(page);
        c.end();
    }

    private static void face(String page) {
        String table = between(page, "### The calls", "### What answers mean");
        for (Method method : NineActs.class.getDeclaredMethods()) {
            if (Modifier.isPublic(method.getModifiers())) {
                c.due("the table tells " + method.getName(), has(table, "`" + method.getName() + "`"), 1);
            }
        }
        Matcher name = Pattern.compile("`(\\w+)`").matcher(table);
        while (name.find()) {
            c.due("there is a call " + name.group(1), method(name.group(1)) == null ? 0 : 1, 1);
        }
    }

    private static void constants(String page) throws ReflectiveOperationException {
        for (Field field : NineActs.class.getDeclaredFields()) {
            if (Modifier.isPublic(field.getModifiers())) {
                String told = "`" + field.getName() + "` (" + field.getInt(null) + ")";
                c.due("the page tells " + told, has(page, told), 1);
            }
        }
    }

    private static void example(String page) throws ReflectiveOperationException {
        String code = between(page, "NineActs x = new NineActs();\n", "```");
        NineActs x = new NineActs();
        int calls = 0;
        for (String line : code.split("\n")) {
            Matcher write = WRITE.matcher(line);
            Matcher call = CALL.matcher(line);
            if (write.matches()) {
                Check.write(x, write.group(1));
            } else if (call.matches()) {
                c.due(line, answer(x, call.group(1), call.group(2)), Long.parseLong(call.group(3)));
                calls++;
            } else {
                c.due("no test understands: " + line, ANY_USE.matcher(line).matches() ? 1 : 0, 0);
            }
        }
        c.due("the example has calls enough", calls >= FEWEST_CALLS ? 1 : 0, 1);
    }

    private static long answer(NineActs x, String name, String numbers) throws ReflectiveOperationException {
        Method method = method(name);
        if (method == null) {
            return Long.MIN_VALUE;
        }
        String[] parts = numbers.isEmpty() ? new String[0] : numbers.split(", ");
        Object[] values = new Object[parts.length];
        for (int k = 0; k < parts.length; k++) {
            values[k] = Integer.decode(parts[k]);
        }
        return ((Number) method.invoke(x, values)).longValue();
    }

    private static void tests(String page) throws IOException {
        try (var files = Files.list(Path.of("src/test/java"))) {
            files.map(file -> file.getFileName().toString()).filter(name -> name.endsWith("Test.java")).forEach(name -> {
                String test = name.substring(0, name.length() - ".java".length());
                c.due("the page tells of " + test, has(page, "`" + test + "`"), 1);
            });
        }
        c.due("the page tells how tests are run", has(page, "```sh\n.ci/run\n```"), 1);
    }

    private static Method method(String name) {
        for (Method method : NineActs.class.getDeclaredMethods()) {
            if (method.getName().equals(name) && Modifier.isPublic(method.getModifiers())) {
                return method;
            }
        }
        return null;
    }

    private static String between(String page, String from, String to) {
        int begin = page.indexOf(from);
        int end = begin < 0 ? -1 : page.indexOf(to, begin + from.length());
        c.due("the page has a part that begins: " + from.trim(), end < 0 ? 0 : 1, 1);
        return end < 0 ? "" : page.substring(begin + from.length(), end);
    }

    private static int has(String text, String part) {
        return text.contains(part) ? 1 : 0;
    }
}
