import java.io.IOException;
import java.nio.file.Files;
import java.nio.file.Path;
import java.util.regex.Matcher;
import java.util.regex.Pattern;

// Those rules of LANGUAGE.md that the words of the source tell; it is started at the root of the project.
public final class LanguageTest {
    private static final String[] FORBIDDEN_WORDS = {
        "package", "import", "throw", "throws", "try", "catch", "finally", "synchronized", "assert", "instanceof",
        "null", "float", "double", "String", "Object", "Math", "Integer", "Long", "System", "Arrays", "var", "enum",
        "interface", "record", "protected", "extends", "implements", "volatile", "native"
    };

    public static void main(String[] args) throws IOException {
        String source = withoutComments(Files.readString(Path.of("src/main/java/AsyncMaskVm.java")));
        for (String word : FORBIDDEN_WORDS) {
            Check.due("uses of " + word, count("\\b" + word + "\\b", source), 0);
        }
        Check.due("classes", count("\\bclass\\b", source), 1);
        Check.due("lambdas and method references", count("->|::", source), 0);
        Check.due("text", count("\"", source), 0);
        Check.due("static initialisers", count("\\bstatic\\s*\\{", source), 0);
        arraysAreMadeInFields(source);
        methodsAreShort(source);
        Check.due("fields beside the constants", count("(?m)^    private (?!static)[^(]*;$", source) <= 40, true);
        Check.end();
    }

    private static String withoutComments(String source) {
        return source.replaceAll("(?s)/\\*.*?\\*/", " ").replaceAll("//[^\\n]*", " ");
    }

    private static int count(String pattern, String source) {
        Matcher matcher = Pattern.compile(pattern).matcher(source);
        int count = 0;
        while (matcher.find()) {
            count++;
        }
        return count;
    }

    private static void arraysAreMadeInFields(String source) {
        int inFields = count("(?m)^    private final int\\[\\] \\w+ = new int\\[[A-Z_]+\\];$", source);
        Check.due("uses of new outside of fields", count("\\bnew\\b", source) - inFields, 0);
        Check.due("array types outside of fields", count("\\[\\s*\\]", source) - inFields, 0);
    }

    // Every method begins and ends at an indent of four.
    private static void methodsAreShort(String source) {
        Matcher matcher = Pattern.compile("(?ms)^    (?:public|private) [^;=]*?\\{$.*?^    \\}$").matcher(source);
        int found = 0;
        while (matcher.find()) {
            found++;
            String method = matcher.group();
            String head = method.substring(0, method.indexOf('{'));
            Check.due("short enough: " + head, method.split("\n").length <= 60, true);
        }
        Check.due("methods were found", found > 12, true);
    }
}
