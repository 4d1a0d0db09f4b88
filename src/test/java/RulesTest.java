import java.io.IOException;
import java.nio.file.Files;
import java.nio.file.Path;
import java.util.HashSet;
import java.util.Set;
import java.util.regex.Matcher;
import java.util.regex.Pattern;

/** What of ../shared/LANGUAGE.md can be read off the text of the class; runs in the project's folder. */
public final class RulesTest {
    private static final Path SOURCE = Path.of("src/main/java/BehindTheMask.java");
    private static final Pattern METHOD = Pattern.compile(
            "(?m)^( {4}| {8})((?:public |private |static )*)[\\w\\[\\]]+ (\\w+)\\(([^;{]*)\\) \\{$");
    private static final Set<String> CALLS = Set.of("bitCount", "max", "min", "arraycopy");

    private RulesTest() {
    }

    public static void main(String[] args) throws IOException {
        String text = Files.readString(SOURCE);
        Due.is("signs beyond 127", text.chars().filter(sign -> sign > 127).count(), 0);
        String code = withoutComments(text);
        forbidden(code);
        classes(code);
        methods(code);
        staticFields(code);
        Due.end();
    }

    private static String withoutComments(String text) {
        return text.replaceAll("(?s)/\\*.*?\\*/", "").replaceAll("//[^\n]*", "").replaceAll("'.'", "' '");
    }

    private static int times(String code, String pattern) {
        Matcher found = Pattern.compile(pattern).matcher(code);
        int n = 0;
        while (found.find()) {
            n++;
        }
        return n;
    }

    /** Rules 2, 4, 6, 12 and 13: words that stand nowhere. */
    private static void forbidden(String code) {
        String[] words = {"throw", "throws", "try", "catch", "finally", "synchronized", "assert", "import",
            "package", "instanceof", "protected", "volatile", "native", "var", "equals", "hashCode",
            "toString", "Object", "Thread", "Random", "\\w+Exact", "String", "Float", "Double"};
        for (String word : words) {
            Due.is("word " + word, times(code, "\\b" + word + "\\b"), 0);
        }
        Due.is("lambdas", times(code, "->"), 0);
        Due.is("method references", times(code, "::"), 0);
        Due.is("static initialisers", times(code, "static \\{"), 0);
        Due.is("while (true)", times(code, "while \\(true\\)"), 0);
    }

    /** Rules 2 and 11: few classes, each private, static and final but the one. */
    private static void classes(String code) {
        int all = times(code, "\\bclass \\w+");
        Due.is("public classes", times(code, "(?m)^public final class BehindTheMask \\{"), 1);
        Due.is("classes inside", times(code, "(?m)^    private static final class \\w+ \\{"), all - 1);
        Due.is("at most twelve", all <= 12 ? 1 : 0, 1);
    }

    /** Rules 1, 4 and 11: names, parameters and lengths of methods, and the library's calls. */
    private static void methods(String code) {
        Set<String> faces = new HashSet<>();
        Set<String> own = new HashSet<>();
        Matcher method = METHOD.matcher(code);
        while (method.find()) {
            String name = method.group(3);
            boolean isFace = method.group(1).length() == 4 && method.group(2).contains("public");
            (isFace ? faces : own).add(name);
            int parameters = method.group(4).isEmpty() ? 0 : method.group(4).split(",").length;
            Due.is("parameters of " + name, parameters <= 7 ? 1 : 0, 1);
            int end = code.indexOf("\n" + method.group(1) + "}", method.end());
            long lines = code.substring(method.end(), end).lines().count();
            Due.is("lines of " + name, lines <= 60 ? 1 : 0, 1);
        }
        Due.is("methods of the face", faces.size(), 46);
        for (String name : own) {
            Due.is("a name of the face: " + name, faces.contains(name) ? 1 : 0, 0);
        }
        Matcher call = Pattern.compile("\\b(?:Math|Integer|Long|System|Arrays)\\.(\\w+)\\(").matcher(code);
        while (call.find()) {
            Due.is("library call " + call.group(1), CALLS.contains(call.group(1)) ? 1 : 0, 1);
        }
    }

    /** Rule 5: static fields are final. */
    private static void staticFields(String code) {
        Due.is("static fields", times(code, "(?m)^ +(?:private |public )?static (?!final)[\\w\\[\\]]+ \\w+( =|;)"), 0);
    }
}
