import java.io.IOException;
import java.lang.reflect.Method;
import java.nio.file.DirectoryStream;
import java.nio.file.Files;
import java.nio.file.Path;
import java.util.List;
import java.util.Set;
import java.util.TreeSet;
import java.util.regex.Matcher;
import java.util.regex.Pattern;

/** What README.md says: the answers of its example, its tables of calls and of error codes, and its list of tests. */
public final class ReadmeTest {
    private static final Pattern TYPED = Pattern.compile("type\\(m, \"(.*)\"\\);");
    private static final Pattern CALLED = Pattern.compile("m\\.(\\w+\\([^)]*\\)); +// (-?\\d+)(: .+)?");
    private static final Pattern CALL_ROW = Pattern.compile("\\| `(\\w+)\\((.*?)\\)` \\| .+ \\|(.*)\\|");
    private static final Pattern CODE_ROW = Pattern.compile("\\| `(BAD|STATE|FULL)` \\| (-\\d+) \\| .+ \\|");

    public static void main(String[] args) throws Exception {
        Checks c = new Checks("README.md");
        List<String> lines = Files.readAllLines(Path.of("README.md"));
        example(c, lines);
        calls(c, lines);
        codes(c, lines);
        tests(c, lines);
        Checks.finish("ReadmeTest");
    }

    private static void example(Checks c, List<String> lines) throws ReflectiveOperationException {
        int from = lines.indexOf("```java") + 1;
        int called = 0;
        c.due("the first line of the example", lines.get(from), "LogicMachine m = new LogicMachine();");
        for (int i = from + 1; !lines.get(i).equals("```"); i++) {
            Matcher typed = TYPED.matcher(lines.get(i));
            Matcher call = CALLED.matcher(lines.get(i));
            if (typed.matches()) {
                c.type(typed.group(1));
            } else if (call.matches()) {
                c.due(call.group(1), c.call(call.group(1)), Long.parseLong(call.group(2)));
                called++;
            } else {
                c.due("a line of the example", lines.get(i), "");
            }
        }
        c.due("the example has calls", called > 10 ? 1 : 0, 1);
    }

    /** Each call of the class has a row of its own, with the error codes that the document names for it. */
    private static void calls(Checks c, List<String> lines) throws IOException {
        Set<String> shown = new TreeSet<>();
        for (String line : lines) {
            Matcher row = CALL_ROW.matcher(line);
            if (row.matches()) {
                String arguments = row.group(2);
                shown.add(row.group(1) + "/" + (arguments.isEmpty() ? 0 : arguments.split(",").length));
                String promise = promiseOf(row.group(1));
                if (promise != null) {
                    c.due("the error codes of " + row.group(1), codesIn(row.group(3)), codesIn(promise));
                }
            }
        }
        Set<String> face = new TreeSet<>();
        for (Method method : LogicMachine.class.getMethods()) {
            if (method.getDeclaringClass() == LogicMachine.class) {
                face.add(method.getName() + "/" + method.getParameterCount());
            }
        }
        c.due("the table of calls", shown.toString(), face.toString());
    }

    private static String codesIn(String text) {
        StringBuilder codes = new StringBuilder();
        for (String code : new String[] {"BAD", "STATE", "FULL"}) {
            if (Pattern.compile("\\b" + code + "\\b").matcher(text).find()) {
                codes.append(code).append(' ');
            }
        }
        return codes.toString();
    }

    /** What the document promises of a call; null where the document is not at hand. */
    private static String promiseOf(String call) throws IOException {
        Path document = Path.of("../shared/DOC.md");
        if (!Files.exists(document)) {
            return null;
        }
        for (String section : Files.readString(document).split("\n## ")) {
            if (section.matches("(?s)Promise \\d+: " + call + "\n.*")) {
                return section;
            }
        }
        return "";
    }

    private static void codes(Checks c, List<String> lines) throws ReflectiveOperationException {
        int rows = 0;
        for (String line : lines) {
            Matcher row = CODE_ROW.matcher(line);
            if (row.matches()) {
                rows++;
                c.due(row.group(1), LogicMachine.class.getField(row.group(1)).getInt(null), Long.parseLong(row.group(2)));
            }
        }
        c.due("the rows of error codes", rows, 3);
        c.due("NONE stands there", String.join(" ", lines).contains("`NONE` (" + LogicMachine.NONE + ")") ? 1 : 0, 1);
    }

    /** Each test of the project stands in the table of tests, and no other one does. */
    private static void tests(Checks c, List<String> lines) throws IOException {
        Set<String> shown = new TreeSet<>();
        for (String line : lines) {
            if (line.matches("\\| `[\\w.]+Test` \\| .+ \\|")) {
                shown.add(line.substring(3, line.indexOf('`', 3)));
            }
        }
        Set<String> present = new TreeSet<>();
        try (DirectoryStream<Path> files = Files.newDirectoryStream(Path.of("src/test/java"), "*Test.java")) {
            for (Path file : files) {
                String name = file.getFileName().toString().replace(".java", "");
                present.add(name.startsWith("BoundariesOf") ? "BoundariesOf...Test" : name);
            }
        }
        c.due("the table of tests", shown.toString(), present.toString());
    }
}
