import java.io.IOException;
import java.lang.reflect.Field;
import java.lang.reflect.Method;
import java.lang.reflect.Modifier;
import java.net.URL;
import java.net.URLClassLoader;
import java.nio.file.Files;
import java.nio.file.Path;
import java.util.ArrayList;
import java.util.List;
import java.util.Map;
import java.util.Set;
import java.util.TreeMap;
import java.util.TreeSet;
import java.util.regex.Matcher;
import java.util.regex.Pattern;
import javax.tools.ToolProvider;

/**
 * README.md is right: its examples, compiled as they stand there, give the answers beside the calls, and its tables
 * name the calls, the answers and the constants that there are.
 */
public final class ReadmeTest {
    private static final Path PAGE = Path.of("README.md");
    private static final Path OUT = Path.of("build", "readme");

    private static final Pattern MAKING = Pattern.compile("LoadStoreQueue q = new LoadStoreQueue\\(.*\\);(\\s+//.*)?");
    private static final Pattern WITHOUT_ANSWER = Pattern.compile("q\\.(clearSets)\\(\\);");
    private static final Pattern CALL = Pattern.compile(
            "(?<statement>(?:int (?<kept>\\w+) = )?q\\.(?<method>\\w+)\\([^;]*\\);)\\s+// (?<answer>-?\\w+)(?:: .*)?");
    private static final Pattern CALL_ROW = Pattern.compile("\\| `(\\w+)\\([^`]*\\)` \\|[^|]*\\|(.*)\\|");
    private static final Pattern CONSTANT_ROW = Pattern.compile("\\| `(\\w+)` \\| (-?\\d+) \\|.*\\|");
    private static final Pattern NAME = Pattern.compile("`(\\w+)`");

    private final Checks c = new Checks();
    private final List<String> lines;
    private final Map<String, Integer> constants = new TreeMap<>();
    private final Set<String> methods = new TreeSet<>();

    private final StringBuilder program = new StringBuilder();
    private final List<String> calls = new ArrayList<>();
    private final List<Long> due = new ArrayList<>();
    private final Set<String> methodsShown = new TreeSet<>();
    private final Set<String> namesShown = new TreeSet<>();

    private ReadmeTest() throws IOException, ReflectiveOperationException {
        lines = Files.readAllLines(PAGE);
        for (Field field : LoadStoreQueue.class.getFields()) {
            constants.put(field.getName(), field.getInt(null));
        }
        for (Method method : LoadStoreQueue.class.getDeclaredMethods()) {
            if (Modifier.isPublic(method.getModifiers())) {
                methods.add(method.getName());
            }
        }
    }

    public static void main(String[] args) throws IOException, ReflectiveOperationException {
        ReadmeTest test = new ReadmeTest();
        test.readExamples();
        test.runExamples();
        test.tables();
        test.c.end();
    }

    private void readExamples() {
        boolean inExample = false;
        for (int i = 0; i < lines.size(); i++) {
            String line = lines.get(i);
            if (line.equals("```java")) {
                inExample = true;
                program.append("{\n");
            } else if (inExample && line.equals("```")) {
                inExample = false;
                program.append("}\n");
            } else if (inExample) {
                readLine("README.md:" + (i + 1) + " " + line, line);
            }
        }
        c.same("calls that the examples show", methodsShown.toString(), methods.toString());
    }

    private void readLine(String where, String line) {
        Matcher call = CALL.matcher(line);
        Matcher silent = WITHOUT_ANSWER.matcher(line);
        if (call.matches()) {
            String kept = call.group("kept");
            String statement = call.group("statement");
            program.append(kept == null ? "answers[at++] = " + statement
                    : statement + " answers[at++] = " + kept + ";").append('\n');
            methodsShown.add(call.group("method"));
            calls.add(where);
            due.add(answer(call.group("method"), call.group("answer")));
        } else if (silent.matches()) {
            methodsShown.add(silent.group(1));
            program.append(line).append('\n');
        } else {
            c.same(where, MAKING.matcher(line).matches() ? "makes a queue" : "neither a queue nor an answer",
                    "makes a queue");
            program.append(line).append('\n');
        }
    }

    private long answer(String method, String text) {
        if (!constants.containsKey(text)) {
            return Long.decode(text);
        }
        namesShown.add(method + " " + text);
        return constants.get(text);
    }

    private void runExamples() throws IOException, ReflectiveOperationException {
        Files.createDirectories(OUT);
        Path source = OUT.resolve("ReadmeCalls.java");
        Files.writeString(source, "public final class ReadmeCalls {\npublic static long[] answers() {\n"
                + "long[] answers = new long[" + calls.size() + "];\nint at = 0;\n"
                + program + "return answers;\n}\n}\n");
        int refused = ToolProvider.getSystemJavaCompiler().run(null, null, null, "-d", OUT.toString(),
                "-cp", System.getProperty("java.class.path"), source.toString());
        c.due("javac of the examples", refused, 0);
        if (refused != 0) {
            return;
        }
        long[] answers;
        try (URLClassLoader loader = new URLClassLoader(new URL[] {OUT.toUri().toURL()})) {
            answers = (long[]) loader.loadClass("ReadmeCalls").getMethod("answers").invoke(null);
        }
        for (int i = 0; i < answers.length; i++) {
            c.due(calls.get(i), answers[i], due.get(i));
        }
    }

    private void tables() {
        Set<String> methodRows = new TreeSet<>();
        Set<String> nameRows = new TreeSet<>();
        Map<String, Integer> constantRows = new TreeMap<>();
        for (String line : lines) {
            Matcher call = CALL_ROW.matcher(line);
            Matcher constant = CONSTANT_ROW.matcher(line);
            if (call.matches()) {
                methodRows.add(call.group(1));
                NAME.matcher(call.group(2)).results().forEach(r -> nameRows.add(call.group(1) + " " + r.group(1)));
            } else if (constant.matches()) {
                constantRows.put(constant.group(1), Integer.valueOf(constant.group(2)));
            }
        }
        c.same("the table of calls", methodRows.toString(), methods.toString());
        c.same("the answers that it names, each shown by an example", nameRows.toString(), namesShown.toString());
        c.same("the table of constants", constantRows.toString(), constants.toString());
    }
}
