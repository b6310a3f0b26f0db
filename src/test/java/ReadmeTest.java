import java.io.ByteArrayOutputStream;
import java.io.PrintStream;
import java.lang.reflect.Field;
import java.lang.reflect.Method;
import java.lang.reflect.Modifier;
import java.net.URL;
import java.net.URLClassLoader;
import java.nio.charset.StandardCharsets;
import java.nio.file.Files;
import java.nio.file.Path;
import java.util.Set;
import java.util.TreeSet;
import java.util.regex.Matcher;
import java.util.regex.Pattern;
import javax.tools.ToolProvider;

// What README.md says of the class and of the tests; it is started at the root of the project.
public final class ReadmeTest extends Names {
    private static String readme;

    public static void main(String[] args) throws Exception {
        readme = Files.readString(Path.of("README.md"));
        Check.due("what the example prints", printedByExample(block("java")), block("text"));
        Check.due("the calls", found("(?m)^\\| `(\\w+\\([^)]*\\))`").toString(), callsOfTheClass().toString());
        opcodesAreAsTold();
        Check.due("the tests", found("(?m)^\\| (\\w+Test) \\|").toString(), testFiles().toString());
        Check.end();
    }

    private static String block(String kind) {
        Matcher block = Pattern.compile("(?ms)^```" + kind + "\\n(.*?)^```$").matcher(readme);
        Check.due("a block of " + kind, block.find(), true);
        return block.group(1);
    }

    private static String printedByExample(String source) throws Exception {
        Path dir = Files.createTempDirectory("readme");
        Path file = dir.resolve("Example.java");
        dir.toFile().deleteOnExit();
        file.toFile().deleteOnExit();
        dir.resolve("Example.class").toFile().deleteOnExit();
        Files.writeString(file, source);
        String classPath = System.getProperty("java.class.path");
        int refused = ToolProvider.getSystemJavaCompiler()
                .run(null, null, null, "-cp", classPath, "-d", dir.toString(), file.toString());
        Check.due("the compiler on the example", refused, 0);
        try (URLClassLoader loader = new URLClassLoader(new URL[] {dir.toUri().toURL()})) {
            return printedBy(loader.loadClass("Example").getMethod("main", String[].class));
        }
    }

    private static String printedBy(Method main) throws ReflectiveOperationException {
        PrintStream before = System.out;
        ByteArrayOutputStream bytes = new ByteArrayOutputStream();
        System.setOut(new PrintStream(bytes, true, StandardCharsets.UTF_8));
        try {
            main.invoke(null, (Object) new String[0]);
        } finally {
            System.setOut(before);
        }
        return bytes.toString(StandardCharsets.UTF_8).replace(System.lineSeparator(), "\n");
    }

    private static Set<String> found(String pattern) {
        Set<String> found = new TreeSet<>();
        Matcher matcher = Pattern.compile(pattern).matcher(readme);
        while (matcher.find()) {
            found.add(matcher.group(1).replaceAll("\\w+(?=[,)])", "int"));
        }
        return found;
    }

    private static Set<String> callsOfTheClass() {
        Set<String> calls = new TreeSet<>();
        for (Method method : AsyncMaskVm.class.getDeclaredMethods()) {
            if (Modifier.isPublic(method.getModifiers())) {
                String parameters = "int, ".repeat(method.getParameterCount());
                calls.add((method.getName() + "(" + parameters + ")").replace(", )", ")"));
            }
        }
        return calls;
    }

    private static Set<String> testFiles() throws Exception {
        Set<String> names = new TreeSet<>();
        try (var files = Files.newDirectoryStream(Path.of("src/test/java"), "*Test.java")) {
            files.forEach(file -> names.add(file.getFileName().toString().replace(".java", "")));
        }
        return names;
    }

    private static void opcodesAreAsTold() throws ReflectiveOperationException {
        Matcher row = Pattern.compile("(?m)^\\| (\\d+) \\| `(\\w+)[^|]*\\|[^|]*\\|([^|]*)\\|$").matcher(readme);
        int rows = 0;
        while (row.find()) {
            String name = row.group(2);
            Check.due("rows above " + name, rows, Integer.parseInt(row.group(1)));
            Check.due(name, AsyncMaskVm.class.getField(name).getInt(null), rows);
            Set<Integer> told = new TreeSet<>();
            for (String error : row.group(3).replaceAll("[` ]", "").split(",")) {
                if (!error.isEmpty()) {
                    Field constant = AsyncMaskVm.class.getField(error);
                    told.add(constant.getInt(null));
                }
            }
            Check.due("errors of " + name, errorsOf(rows).toString(), told.toString());
            rows++;
        }
        Check.due("rows of opcodes", rows, 16);
    }

    // No value that is pushed here is one of the errors, so a thread that dies of one met it in the opcode.
    private static Set<Integer> errorsOf(int op) {
        Set<Integer> errors = new TreeSet<>();
        for (int operands = 0; operands <= 8; operands++) {
            for (int frames = 0; frames <= 8; frames++) {
                for (int arg : new int[] {MIN, -1, 0, 1, 7, 8, MAX}) {
                    int exit = exitAfter(op, arg, operands, frames);
                    if (exit < 0) {
                        errors.add(exit);
                    }
                }
            }
        }
        return errors;
    }

    private static int exitAfter(int op, int arg, int operands, int frames) {
        Probe p = new Probe("opcode " + op).repeat(operands, PUSH, 100).repeat(frames, MASK, 0).code(op, arg);
        p.spawn(0).run(0, operands + frames + 1);
        return p.vm.getThread(0, 3);
    }
}
