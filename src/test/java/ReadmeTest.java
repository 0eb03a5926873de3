import java.io.IOException;
import java.lang.reflect.Method;
import java.nio.file.Files;
import java.nio.file.Path;
import java.util.List;
import java.util.regex.Matcher;
import java.util.regex.Pattern;

/** README.md tells every call of the face, and its examples answer what stands behind them there. */
public final class ReadmeTest {
    private static final Pattern CALL =
        Pattern.compile("log\\.(\\w+)\\(([^()]*)\\);\\s+// (-?\\d+|throws \\w+)(: .+)?");
    private static final Pattern LOOP =
        Pattern.compile("for \\(int i = (\\d+); i < (\\d+); i\\+\\+\\) \\{ log\\.(\\w+)\\(([^()]*)\\); \\}");

    private final Due due = new Due();
    private LogCleaner log = null;

    public static void main(String[] args) throws IOException {
        List<String> lines = Files.readAllLines(Path.of("README.md"));
        ReadmeTest test = new ReadmeTest();
        test.runExamples(lines);
        test.findHeadings(lines);
        test.due.end();
    }

    private void runExamples(List<String> lines) {
        boolean inside = false;
        for (String line : lines) {
            if (line.startsWith("```")) {
                inside = line.equals("```java");
                log = null;
            } else if (inside) {
                runLine(line);
            }
        }
    }

    private void runLine(String line) {
        Matcher call = CALL.matcher(line);
        Matcher loop = LOOP.matcher(line);
        if (line.equals("LogCleaner log = new LogCleaner();")) {
            log = new LogCleaner();
        } else if (log != null && call.matches()) {
            due.text(line, outcome(call.group(1), call.group(2)), call.group(3));
        } else if (log != null && loop.matches()) {
            for (int i = Integer.parseInt(loop.group(1)); i < Integer.parseInt(loop.group(2)); i++) {
                String arguments = loop.group(4).replace("i + 100", String.valueOf(i + 100))
                    .replaceAll("\\bi\\b", String.valueOf(i));
                String outcome = outcome(loop.group(3), arguments);
                due.text(line + " for " + i, outcome.startsWith("throws") ? outcome : "", "");
            }
        } else {
            due.text("a line of an example", line, "a call and its answer");
        }
    }

    private String outcome(String name, String arguments) {
        for (Method method : LogCleaner.class.getDeclaredMethods()) {
            if (method.getName().equals(name)) {
                return outcome(method, arguments.split(", "));
            }
        }
        return "no such call";
    }

    private String outcome(Method method, String[] arguments) {
        Class<?>[] types = method.getParameterTypes();
        Object[] values = new Object[types.length];
        if (arguments.length != types.length) {
            return "not so many arguments";
        }
        for (int i = 0; i < types.length; i++) {
            values[i] = value(types[i], arguments[i]);
        }
        try {
            return String.valueOf(method.invoke(log, values));
        } catch (ReflectiveOperationException e) {
            return "throws " + (e.getCause() == null ? e : e.getCause()).getClass().getSimpleName();
        }
    }

    private static Object value(Class<?> type, String text) {
        if (type == boolean.class) {
            return Boolean.valueOf(text);
        }
        return type == long.class ? (Object) Long.valueOf(text) : (Object) Integer.valueOf(text);
    }

    /** Each call of the document's face, with the names that its arguments have there. */
    private void findHeadings(List<String> lines) {
        String[] face = {
            "LogCleaner()",
            "int record(long key, int keyBytes, boolean hasValue, long value, int time)",
            "int close(int producer)",
            "int clean(int time)",
            "int drop(int n)",
            "int count(int what)",
            "int batch(int b, int what)",
            "long told(int r, int what)",
            "int latest(long key, int keyBytes)",
        };
        for (String call : face) {
            due.answer("a heading of " + call, lines.contains("### `" + call + "`") ? 1 : 0, 1);
        }
    }
}
