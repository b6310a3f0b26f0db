import java.io.IOException;
import java.nio.file.Files;
import java.nio.file.Path;
import java.util.LinkedHashMap;
import java.util.Map;
import java.util.regex.Matcher;
import java.util.regex.Pattern;

// Those rules of LANGUAGE.md that the words of the source tell; it is started at the root of the project.
// It leans on the way the class is laid out: members at an indent of four, the head of a method on one line.
public final class LanguageTest {
    private static final String[] FORBIDDEN_WORDS = {
        "package", "import", "throw", "throws", "try", "catch", "finally", "synchronized", "assert", "instanceof",
        "null", "float", "double", "String", "Object", "Math", "Integer", "Long", "System", "Arrays", "var", "enum",
        "interface", "record", "protected", "extends", "implements", "volatile", "native"
    };
    private static final Pattern METHOD =
            Pattern.compile("(?ms)^    (?:public|private) (?:[\\w ]+ )?(\\w+)\\(([^)]*)\\) \\{$(.*?)^    \\}$");
    private static final String COUNTED_LOOP = "for \\(int (\\w+) = [^;]+; \\1 [<>] [^;]+; \\1(?:\\+\\+|--)\\) \\{";

    private static String source;
    private static final Map<String, String> bodies = new LinkedHashMap<>();

    public static void main(String[] args) throws IOException {
        source = withoutComments(Files.readString(Path.of("src/main/java/AsyncMaskVm.java")));
        Check.sentence("rule 1: One class", LanguageTest::oneClass);
        Check.sentence("rules 2, 3, 6 and 11, as far as single words tell", LanguageTest::noForbiddenWords);
        Check.sentence("rule 4: Arrays are made in a field's initialiser", LanguageTest::arraysAreMadeInFields);
        Check.sentence("rule 5: Static fields are compile-time constants of int or long alone.", LanguageTest::statics);
        Check.sentence("rule 10: A method takes at most seven parameters", LanguageTest::methodsAreSmall);
        Check.sentence("rule 8: Every loop has an end that can be seen from its own lines", LanguageTest::loopsAreCounted);
        Check.sentence("rules 8 and 10: No recursion; calls go at most six deep", LanguageTest::callsAreNotDeep);
        Check.sentence("rule 10: no call stands inside the arguments of another call", LanguageTest::callsAreNotNested);
        Check.sentence("rule 10: at most some forty fields beside its constants", LanguageTest::fieldsAreFew);
        Check.end();
    }

    private static String withoutComments(String source) {
        return source.replaceAll("(?s)/\\*.*?\\*/", " ").replaceAll("//[^\\n]*", " ");
    }

    private static int count(String pattern, String text) {
        Matcher matcher = Pattern.compile(pattern).matcher(text);
        int count = 0;
        while (matcher.find()) {
            count++;
        }
        return count;
    }

    private static void oneClass() {
        Check.due("classes", count("\\bclass\\b", source), 1);
        Check.due("the class", count("^public final class AsyncMaskVm \\{", source), 1);
    }

    private static void noForbiddenWords() {
        for (String word : FORBIDDEN_WORDS) {
            Check.due("uses of " + word, count("\\b" + word + "\\b", source), 0);
        }
        Check.due("lambdas and method references", count("->|::", source), 0);
        Check.due("text", count("\"", source), 0);
    }

    private static void arraysAreMadeInFields() {
        int inFields = count("(?m)^    private final int\\[\\] \\w+ = new int\\[[A-Z_]+\\];$", source);
        Check.due("uses of new outside of fields", count("\\bnew\\b", source) - inFields, 0);
        Check.due("array types outside of fields", count("\\[\\s*\\]", source) - inFields, 0);
    }

    private static void statics() {
        int constants = count("(?m)^    (?:public|private) static final int [A-Z_]+ = [-A-Z_0-9* ]+;$", source);
        int methods = count("(?m)^    private static \\w+ \\w+\\([^)]*\\) \\{$", source);
        Check.due("other uses of static", count("\\bstatic\\b", source) - constants - methods, 0);
    }

    private static void methodsAreSmall() {
        Matcher matcher = METHOD.matcher(source);
        while (matcher.find()) {
            String name = matcher.group(1);
            Check.due(name + " stands twice", bodies.put(name, matcher.group(3)) != null, false);
            Check.due(name + " has seven parameters or fewer", matcher.group(2).split(",").length <= 7, true);
            Check.due(name + " is short", matcher.group().split("\n").length <= 60, true);
        }
        Check.due("methods found", bodies.size(), count("(?m)^    (?:public|private) [^=;]*\\{$", source));
        Check.due("more than those of the document", bodies.size() > 13, true);
    }

    private static void loopsAreCounted() {
        Check.due("loops without a counter", count("\\b(?:for|while|do)\\b", source) - count(COUNTED_LOOP, source), 0);
        Matcher loop = Pattern.compile("(?ms)^( +)" + COUNTED_LOOP.replace("\\1", "\\2") + "$(.*?)^\\1\\}$").matcher(source);
        while (loop.find()) {
            String counter = loop.group(2);
            Check.due("changes of " + counter + " in its loop", count("\\b" + counter + " [-+*/]?= ", loop.group(3)), 0);
        }
    }

    private static void callsAreNotDeep() {
        for (String name : bodies.keySet()) {
            Check.due(name + " goes deeper than six calls", goesDeeper(name, 6), false);
        }
    }

    // A method that calls itself, by however many others, goes deeper than any bound.
    private static boolean goesDeeper(String name, int left) {
        if (left == 0) {
            return true;
        }
        boolean deeper = false;
        Matcher call = calls(bodies.get(name));
        while (call.find()) {
            deeper |= goesDeeper(call.group(1), left - 1);
        }
        return deeper;
    }

    private static Matcher calls(String text) {
        return Pattern.compile("\\b(" + String.join("|", bodies.keySet()) + ")\\(").matcher(text);
    }

    private static void callsAreNotNested() {
        for (String body : bodies.values()) {
            Matcher call = calls(body);
            while (call.find()) {
                String arguments = upToClosing(body.substring(call.end()));
                Check.due("calls in " + call.group(1) + "(" + arguments + ")", calls(arguments).find(), false);
            }
        }
    }

    private static String upToClosing(String text) {
        int open = 1;
        int at = 0;
        while (open > 0) {
            open += text.charAt(at) == '(' ? 1 : text.charAt(at) == ')' ? -1 : 0;
            at++;
        }
        return text.substring(0, at - 1);
    }

    private static void fieldsAreFew() {
        int fields = count("(?m)^    private (?!static)[^(\\n]*;$", source);
        Check.due("at most forty, there are " + fields, fields > 0 && fields <= 40, true);
    }
}
