import java.io.IOException;
import java.lang.reflect.Field;
import java.lang.reflect.Method;
import java.lang.reflect.Modifier;
import java.nio.file.Files;
import java.nio.file.Path;
import java.util.HashSet;
import java.util.Set;
import java.util.regex.Matcher;
import java.util.regex.Pattern;

/** README.md: what its examples answer, and that each call and constant stands in it. */
public final class ReadmeTest {
    private static final Path README = Path.of("README.md");
    private static final Pattern BLOCK = Pattern.compile("(?s)\n```java\n(.*?)\n```\n");
    private static final Pattern CALL = Pattern.compile(
            "x\\.(\\w+)\\(([^()]*)\\); +// (-?\\d+|[A-Z]+|Long\\.MIN_VALUE)\\b.*");
    private static final String MADE = "BehindTheMask x = new BehindTheMask();";

    private final Set<String> shown = new HashSet<>();
    private BehindTheMask x = null;

    private ReadmeTest() {
    }

    public static void main(String[] args) throws IOException, ReflectiveOperationException {
        String text = Files.readString(README);
        new ReadmeTest().examples(text);
        face(text);
        constants(text);
        tests(text);
        Due.end();
    }

    private void examples(String text) throws ReflectiveOperationException {
        Matcher block = BLOCK.matcher(text);
        while (block.find()) {
            for (String line : block.group(1).split("\n")) {
                example(line);
            }
        }
        for (Method each : BehindTheMask.class.getDeclaredMethods()) {
            if (Modifier.isPublic(each.getModifiers())) {
                Due.is("an example of " + each.getName(), shown.contains(each.getName()) ? 1 : 0, 1);
            }
        }
    }

    private void example(String line) throws ReflectiveOperationException {
        if (line.equals(MADE)) {
            x = new BehindTheMask();
            return;
        }
        Matcher call = CALL.matcher(line);
        if (!call.matches() || x == null) {
            Due.is("an example that can be read: " + line, 0, 1);
            return;
        }
        shown.add(call.group(1));
        Method method = named(call.group(1));
        String[] told = call.group(2).isEmpty() ? new String[0] : call.group(2).split(", ");
        Object[] arguments = new Object[told.length];
        for (int i = 0; i < told.length; i++) {
            boolean isLong = method.getParameterTypes()[i] == long.class;
            arguments[i] = isLong ? (Object) number(told[i]) : (Object) (int) number(told[i]);
        }
        Due.is(line, ((Number) method.invoke(x, arguments)).longValue(), number(call.group(3)));
    }

    private static Method named(String name) throws ReflectiveOperationException {
        for (Method each : BehindTheMask.class.getDeclaredMethods()) {
            if (Modifier.isPublic(each.getModifiers()) && each.getName().equals(name)) {
                return each;
            }
        }
        throw new NoSuchMethodException(name);
    }

    /** A number as README.md tells it: by digits, as a letter, or by a constant's name. */
    private static long number(String told) throws ReflectiveOperationException {
        if (told.equals("Long.MIN_VALUE")) {
            return Long.MIN_VALUE;
        }
        if (told.startsWith("'")) {
            return told.charAt(1);
        }
        boolean isName = Character.isUpperCase(told.charAt(0));
        return isName ? BehindTheMask.class.getField(told).getInt(null) : Long.parseLong(told);
    }

    /** Each call stands in a table, with as many arguments as it takes. */
    private static void face(String text) {
        for (Method each : BehindTheMask.class.getDeclaredMethods()) {
            if (!Modifier.isPublic(each.getModifiers())) {
                continue;
            }
            int takes = each.getParameterCount();
            String arguments = takes == 0 ? "" : "\\w+" + ", \\w+".repeat(takes - 1);
            Pattern row = Pattern.compile("(?m)^\\|[^|]*`" + each.getName() + "\\(" + arguments + "\\)`[^|]*\\|");
            Due.is("a row of " + each.getName(), row.matcher(text).find() ? 1 : 0, 1);
        }
    }

    private static void constants(String text) throws ReflectiveOperationException {
        for (Field each : BehindTheMask.class.getFields()) {
            String row = "\n| `" + each.getName() + "` | " + each.getInt(null) + " | ";
            Due.is("a row of " + each.getName(), text.contains(row) ? 1 : 0, 1);
        }
    }

    private static void tests(String text) throws IOException {
        try (var files = Files.list(Path.of("src/test/java"))) {
            for (Path each : (Iterable<Path>) files::iterator) {
                String name = each.getFileName().toString().replace(".java", "");
                Due.is("what README.md says of " + name, text.contains("`" + name) ? 1 : 0, 1);
            }
        }
    }
}
