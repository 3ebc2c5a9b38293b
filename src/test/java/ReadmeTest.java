import java.io.File;
import java.nio.file.Files;
import java.nio.file.Path;
import java.util.ArrayList;
import java.util.List;
import java.util.Set;
import java.util.TreeSet;
import java.util.regex.Matcher;
import java.util.regex.Pattern;
import java.util.stream.Stream;
import javax.tools.ToolProvider;

/**
 * README.md: its calls are compiled and run, and each must answer what stands behind it; it shows each method and each
 * answer, names instructions by their numbers, lists each test, and its commands for one test hold.
 */
public final class ReadmeTest {
    private static final HelpCheck check = new HelpCheck();
    private static final String ANSWERS = "true|false|OK|THROWN|LONG|REFUSED|NOTHING|-?[0-9]+";
    private static final Pattern CALL =
        Pattern.compile("(x\\.([a-z]+)\\(([-0-9, ]*)\\)); +// (" + ANSWERS + ")(?: +(\\S.*))?");
    private static final Set<String> shown = new TreeSet<>();

    public static void main(String[] args) throws Exception {
        List<String> lines = Files.readAllLines(Path.of("README.md"));
        List<String> statements = new ArrayList<>();
        for (String block : blocks(lines, "java")) {
            for (String line : block.split("\n")) statements.add(statement(line));
        }
        run(statements);
        showsAll();
        numbers(lines);
        tests(lines);
        commands(blocks(lines, "sh"));
        check.end();
    }

    private static List<String> blocks(List<String> lines, String language) {
        List<String> blocks = new ArrayList<>();
        StringBuilder open = null;
        for (String line : lines) {
            if (line.equals("```" + language)) {
                open = new StringBuilder();
            } else if (line.equals("```")) {
                if (open != null) blocks.add(open.toString());
                open = null;
            } else if (open != null) {
                open.append(line).append('\n');
            }
        }
        check.due("blocks of " + language, true, !blocks.isEmpty());
        return blocks;
    }

    private static String statement(String line) {
        check.part("the lines of README.md");
        if (line.equals("LazyCompiler x = new LazyCompiler();")) {
            shown.add("new");
            return line;
        }
        Matcher call = CALL.matcher(line);
        check.due("a call with its answer: " + line, true, call.matches());
        if (!call.matches()) return "";
        String answer = call.group(4);
        shown.add(call.group(2));
        shown.add(call.group(2) + " " + answer);
        if (call.group(2).equals("code")) instruction(line, call.group(3), call.group(5));
        String want = answer.matches("[A-Z]+") ? "LazyCompiler." + answer : answer.matches("[a-z]+") ? answer : answer + "L";
        return "check.due(\"" + call.group(1) + "\", " + want + ", " + call.group(1) + ");";
    }

    private static void instruction(String line, String arguments, String remark) {
        String[] numbers = arguments.split(", ");
        Matcher named = Pattern.compile("([A-Z]+)(?: ([0-9]+))?\\b.*").matcher(remark == null ? "" : remark);
        check.due("the instruction is named: " + line, true, named.matches());
        if (!named.matches()) return;
        try {
            int op = HelpOps.class.getField(named.group(1)).getInt(null);
            check.due("the name of: " + line, Integer.parseInt(numbers[0]), op);
        } catch (ReflectiveOperationException e) {
            check.due("there is such a name: " + line, true, false);
        }
        String a = named.group(2) == null ? "0" : named.group(2);
        check.due("the number of: " + line, Integer.parseInt(numbers[1]), Integer.parseInt(a));
    }

    private static void run(List<String> statements) throws Exception {
        check.part("the calls of README.md");
        Path out = Files.createTempDirectory("readme");
        try {
            Path source = out.resolve("ReadmeCalls.java");
            Files.writeString(source, "final class ReadmeCalls { static void run(HelpCheck check) {\n"
                + String.join("\n", statements) + "\n} }\n");
            // Where the test's own classes are, so that it is in one package with HelpCheck.
            String classes = new File(HelpCheck.class.getProtectionDomain().getCodeSource().getLocation().toURI()).getPath();
            int compiled = ToolProvider.getSystemJavaCompiler().run(null, null, null,
                "-cp", classes, "-d", classes, source.toString());
            check.due("javac", 0, compiled);
            if (compiled != 0) return;
            Class.forName("ReadmeCalls").getDeclaredMethod("run", HelpCheck.class).invoke(null, check);
        } finally {
            remove(out);
        }
    }

    private static void remove(Path directory) throws Exception {
        try (Stream<Path> files = Files.list(directory)) {
            for (Path file : files.toList()) Files.delete(file);
        }
        Files.delete(directory);
    }

    private static void showsAll() {
        check.part("what README.md shows");
        check.due("new", true, shown.contains("new"));
        for (var method : LazyCompiler.class.getDeclaredMethods()) {
            if (!java.lang.reflect.Modifier.isPublic(method.getModifiers())) continue;
            check.due(method.getName(), true, shown.contains(method.getName()));
            if (method.getReturnType() != boolean.class) continue;
            check.due(method.getName() + " true", true, shown.contains(method.getName() + " true"));
            check.due(method.getName() + " false", true, shown.contains(method.getName() + " false"));
        }
        for (String answer : List.of("OK", "THROWN", "LONG", "REFUSED")) {
            check.due("run " + answer, true, shown.contains("run " + answer));
        }
        for (String call : List.of("make OK", "make REFUSED", "code REFUSED", "result NOTHING", "look NOTHING")) {
            check.due(call, true, shown.contains(call));
        }
    }

    private static void numbers(List<String> lines) throws Exception {
        check.part("the numbers of the constants");
        Pattern row = Pattern.compile("\\| `([A-Z]+)` \\| (-?[0-9]+) \\|.*");
        Set<String> named = new TreeSet<>();
        for (String line : lines) {
            Matcher constant = row.matcher(line);
            if (!constant.matches()) continue;
            named.add(constant.group(1));
            check.due(constant.group(1), Long.parseLong(constant.group(2)),
                LazyCompiler.class.getField(constant.group(1)).getLong(null));
        }
        check.due("all are there: " + named, 5, named.size());
    }

    private static void tests(List<String> lines) {
        check.part("the tests that README.md lists");
        Set<String> listed = new TreeSet<>();
        for (String line : lines) {
            if (line.matches("\\| [A-Za-z]+Test \\|.*")) listed.add(line.split(" ")[1] + ".java");
        }
        Set<String> there = new TreeSet<>();
        for (String name : new File("src/test/java").list()) {
            if (name.endsWith("Test.java")) there.add(name);
        }
        check.due(listed + " instead of " + there, true, listed.equals(there));
    }

    private static void commands(List<String> blocks) throws Exception {
        check.part("the commands of README.md");
        for (String block : blocks) {
            // It is what runs this test.
            if (block.equals(".ci/run\n")) {
                check.due(".ci/run", true, new File(".ci/run").canExecute());
                continue;
            }
            Process process = new ProcessBuilder("sh", "-e", "-c", block).redirectErrorStream(true).start();
            String said = new String(process.getInputStream().readAllBytes());
            check.due(block + said, 0, process.waitFor());
        }
    }
}
