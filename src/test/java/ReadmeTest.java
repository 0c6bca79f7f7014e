import java.io.IOException;
import java.lang.reflect.InvocationTargetException;
import java.lang.reflect.Method;
import java.lang.reflect.Modifier;
import java.nio.file.Files;
import java.nio.file.Path;
import java.util.Arrays;
import java.util.List;
import java.util.Map;
import java.util.Set;
import java.util.TreeMap;
import java.util.TreeSet;
import java.util.regex.Matcher;
import java.util.regex.Pattern;

/**
 * What README.md shows, read from the page itself so that page and test cannot differ: its run of calls with their
 * answers, its tables of calls with their exceptions, its texts. Is run where README.md lies.
 */
final class ReadmeTest {
    private static final String NEW_ONE = "WellPumps x = new WellPumps();";
    private static final Pattern CALL = Pattern.compile("x\\.(\\w+)\\((.*)\\); +// (.*)");
    private static final Pattern ROW = Pattern.compile("\\| `(\\w+)\\((.*)\\)` \\| .* \\|(?: ([XAUN, ]+))? \\|");
    private static final Pattern WRONG_TEXT = Pattern.compile("(\\d+) (.*)");
    private static final Map<String, String> LETTERS = Map.of(
            "X", "IndexOutOfBoundsException", "A", "IllegalArgumentException",
            "U", "UnsupportedOperationException", "N", "NoSuchElementException");

    private static final Map<String, Method> FACE = new TreeMap<>();
    private static final Set<String> called = new TreeSet<>();
    private static final Set<String> listed = new TreeSet<>();
    private static WellPumps x = null;
    private static int rightTexts = 0;
    private static int wrongTexts = 0;

    private ReadmeTest() {
    }

    public static void main(String[] args) throws IOException, IllegalAccessException {
        for (Method method : WellPumps.class.getDeclaredMethods()) {
            if (Modifier.isPublic(method.getModifiers())) {
                FACE.put(method.getName(), method);
            }
        }
        String block = "";
        for (String line : Files.readAllLines(Path.of("README.md"))) {
            if (line.startsWith("```")) {
                block = block.isEmpty() ? line : "";
            } else if (block.equals("```java")) {
                example(line);
            } else if (block.equals("```text")) {
                text(line);
            } else if (line.startsWith("| `")) {
                row(line);
            }
        }
        Check.due("calls of the face in the example", called.toString(), FACE.keySet().toString());
        Check.due("calls of the face in the tables", listed.toString(), FACE.keySet().toString());
        Check.due("right texts", rightTexts, 3);
        Check.due("wrong texts", wrongTexts, 3);
        Check.end("ReadmeTest");
    }

    // ---- the run of calls ----

    private static void example(String line) throws IllegalAccessException {
        if (line.equals(NEW_ONE)) {
            x = new WellPumps();
            return;
        }
        Matcher call = CALL.matcher(line);
        boolean readable = x != null && call.matches() && FACE.containsKey(call.group(1));
        Check.due("'" + line + "' is a call of the face", readable, true);
        if (!readable) {
            return;
        }
        Method method = FACE.get(call.group(1));
        String got = answer(method, values(call.group(2)));
        called.add(method.getName());
        Check.due(line, got, named(method, call.group(3)));
    }

    /** Behind a call that answers nothing may stand any words. */
    private static String named(Method method, String comment) {
        boolean answers = method.getReturnType() != void.class || comment.startsWith("throws ");
        return answers ? comment.split(":")[0] : "nothing";
    }

    private static String answer(Method method, Object[] values) throws IllegalAccessException {
        try {
            Object got = method.invoke(x, values);
            if (got == null) {
                return "nothing";
            }
            return got.equals(WellPumps.NONE) ? "NONE" : got.toString();
        } catch (InvocationTargetException e) {
            return "throws " + e.getCause().getClass().getSimpleName();
        }
    }

    private static Object[] values(String written) {
        return parts(written).stream().map(ReadmeTest::value).toArray();
    }

    private static Object value(String written) {
        switch (written) {
            case "true": return true;
            case "false": return false;
            case "WellPumps.NONE": return WellPumps.NONE;
            default: return Long.decode(written).intValue();
        }
    }

    private static List<String> parts(String written) {
        return written.isEmpty() ? List.of() : Arrays.asList(written.split(", "));
    }

    // ---- the tables ----

    private static void row(String line) {
        Matcher row = ROW.matcher(line);
        boolean readable = row.matches() && FACE.containsKey(row.group(1));
        Check.due("'" + line + "' tells a call of the face", readable, true);
        if (!readable) {
            return;
        }
        Method method = FACE.get(row.group(1));
        Check.due(method.getName() + " stands in the tables once", listed.add(method.getName()), true);
        Check.due("numbers in " + line, parts(row.group(2)).size(), method.getParameterCount());
        String told = row.group(3) == null ? "" : row.group(3);
        List<String> names = parts(told).stream().map(LETTERS::get).toList();
        List<String> declared = Arrays.stream(method.getExceptionTypes()).map(Class::getSimpleName).toList();
        Check.due("exceptions in " + line, names.toString(), declared.toString());
    }

    // ---- the texts ----

    private static void text(String line) {
        Matcher wrong = WRONG_TEXT.matcher(line);
        if (wrong.matches()) {
            wrongTexts++;
            Check.due("fault of '" + wrong.group(2) + "'", Check.fault(new WellPumps(), wrong.group(2)),
                    Integer.parseInt(wrong.group(1)));
        } else if (line.startsWith("draw")) {
            rightTexts++;
            Check.due("fault of '" + line + "'", Check.fault(new WellPumps(), line), WellPumps.NONE);
        }
    }
}
