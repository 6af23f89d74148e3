import java.io.IOException;
import java.lang.reflect.InvocationTargetException;
import java.lang.reflect.Method;
import java.lang.reflect.Modifier;
import java.net.URISyntaxException;
import java.nio.charset.StandardCharsets;
import java.nio.file.DirectoryStream;
import java.nio.file.Files;
import java.nio.file.Path;
import java.util.ArrayList;
import java.util.HashSet;
import java.util.List;
import java.util.Set;
import java.util.regex.Matcher;
import java.util.regex.Pattern;
import javax.tools.ToolProvider;

/** README.md says what is so: its example is compiled and run, and its tables have every call and every test. */
public final class ReadmeTest {
    private static final Path PAGE = Path.of("README.md");
    private static final Path TESTS = Path.of("src/test/java");
    private static final String MADE = "ReadmeExample";

    /** A call with its answer behind it, and what it is put into, if anything. */
    private static final Pattern ANSWERED = Pattern.compile(
        "(?:int (\\w+) = )?(house\\.\\w+\\(.*\\)); +// (\\S+?)(:.*)?");
    private static final Pattern THROWN = Pattern.compile("(house\\.\\w+\\(.*\\)); +// throws (\\w+)(:.*)?");
    private static final Pattern ROW = Pattern.compile("\\| `(\\w+)\\((.*)\\)` \\| [^|]+ \\|(.*)\\|");

    private ReadmeTest() {
    }

    /** The lines of the block that begins so, without the marks around them. */
    private static List<String> blockOf(List<String> lines, String mark) {
        List<String> block = new ArrayList<>();
        boolean within = false;
        for (String line : lines) {
            if (line.startsWith("```")) {
                within = !within && line.equals(mark);
            } else if (within) {
                block.add(line);
            }
        }
        return block;
    }

    private static String testOf(String line) {
        Matcher thrown = THROWN.matcher(line);
        if (thrown.matches()) {
            return "fails(\"" + thrown.group(2) + "\", () -> " + thrown.group(1) + ");";
        }
        Matcher answered = ANSWERED.matcher(line);
        if (!answered.matches()) {
            return line;
        }
        String name = answered.group(1);
        String put = name == null ? "" : "int " + name + " = " + answered.group(2) + "; ";
        return put + "due(\"" + answered.group(3) + "\", " + (name == null ? answered.group(2) : name) + ");";
    }

    private static String programOf(List<String> example) {
        StringBuilder text = new StringBuilder("public final class " + MADE + " extends Houses {\n");
        text.append("public static void run() {\n");
        for (String line : example) {
            String told = line.replace("\\", "\\\\").replace("\"", "\\\"");
            text.append("Check.about(\"README.md: ").append(told).append("\");\n").append(testOf(line)).append('\n');
        }
        return text.append("}\n}\n").toString();
    }

    /** It goes to where this test itself was compiled to, as it uses classes that only their neighbours see. */
    private static void lookAtExample(List<String> lines) throws IOException, ReflectiveOperationException,
            URISyntaxException {
        Path room = Path.of(ReadmeTest.class.getProtectionDomain().getCodeSource().getLocation().toURI());
        Path file = room.resolve(MADE + ".java");
        Files.write(file, programOf(blockOf(lines, "```java")).getBytes(StandardCharsets.UTF_8));
        int code = ToolProvider.getSystemJavaCompiler().run(null, null, null, "-cp", room.toString(), "-d",
            room.toString(), file.toString());
        Check.about("README.md: the example can be compiled");
        Check.due(0, code);
        int before = Check.asked();
        if (code == 0) {
            runExample();
        }
        Check.about("README.md: the example tells its answers");
        Check.due(true, Check.asked() > before + 30);
    }

    private static void runExample() throws ReflectiveOperationException {
        try {
            Class.forName(MADE).getMethod("run").invoke(null);
        } catch (InvocationTargetException e) {
            Check.due("no exception", e.getCause());
        }
    }

    private static String rowOf(Method call) {
        StringBuilder row = new StringBuilder(call.getName()).append(' ').append(call.getParameterCount());
        for (Class<?> exception : call.getExceptionTypes()) {
            String name = exception.getSimpleName();
            row.append(name.startsWith("Index") ? " Index" : name.contains("Argument") ? " Argument" : " State");
        }
        return row.toString();
    }

    private static void lookAtCalls(List<String> lines) {
        List<String> told = new ArrayList<>();
        for (String line : lines) {
            Matcher row = ROW.matcher(line);
            if (row.matches()) {
                int count = row.group(2).isEmpty() ? 0 : row.group(2).split(", ").length;
                told.add((row.group(1) + " " + count + " " + row.group(3).strip().replace(",", "")).strip());
            }
        }
        Set<String> want = new HashSet<>();
        for (Method call : GutterPages.class.getDeclaredMethods()) {
            if (Modifier.isPublic(call.getModifiers())) {
                want.add(rowOf(call));
            }
        }
        Check.about("README.md: the tables of the calls");
        Check.due(want.size(), told.size());
        for (String row : want) {
            Check.due(row, told.contains(row) ? row : "not in a table");
        }
    }

    private static void lookAtTests(List<String> lines) throws IOException {
        String page = String.join("\n", lines);
        Check.about("README.md: the tests");
        try (DirectoryStream<Path> files = Files.newDirectoryStream(TESTS, "*.java")) {
            for (Path file : files) {
                String name = file.getFileName().toString();
                Check.due(name, page.contains("`" + name + "`") ? name : "not named");
            }
        }
    }

    public static void main(String[] args) throws IOException, ReflectiveOperationException, URISyntaxException {
        List<String> lines = Files.readAllLines(PAGE, StandardCharsets.UTF_8);
        lookAtExample(lines);
        lookAtCalls(lines);
        lookAtTests(lines);
        Check.close("ReadmeTest");
    }
}
