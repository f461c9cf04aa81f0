import java.io.IOException;
import java.lang.reflect.Method;
import java.lang.reflect.Modifier;
import java.nio.file.DirectoryStream;
import java.nio.file.Files;
import java.nio.file.Path;
import java.util.HashMap;
import java.util.Map;
import java.util.regex.Matcher;
import java.util.regex.Pattern;

/** README.md is held to the class: its example answers what it says, and no call and no test goes without a row. */
public final class ReadmeTests extends Cases {
    private static final Path PAGE = Path.of("README.md"), TESTS = Path.of("src/test/java");
    private static final Map<String, Method> CALLS = new HashMap<>();

    private static String group(String pattern, String in) {
        Matcher m = Pattern.compile(pattern, Pattern.DOTALL).matcher(in);
        boolean found = m.find();
        due("places of " + pattern, found ? 1 : 0, 1);
        return found ? m.group(1) : "";
    }

    /** A number, or a letter between quotes. */
    private static int argument(String told) {
        return told.startsWith("'") ? told.charAt(1) : Integer.parseInt(told);
    }

    private static long answer(StandingQueries x, String name, String arguments) {
        String[] told = arguments.isEmpty() ? new String[0] : arguments.split(", ");
        Object[] numbers = new Object[told.length];
        for (int i = 0; i < told.length; i++) {
            numbers[i] = argument(told[i]);
        }
        try {
            return ((Number) CALLS.get(name).invoke(x, numbers)).longValue();
        } catch (ReflectiveOperationException thrown) {
            throw new IllegalStateException(thrown);
        }
    }

    private static void example(String page) {
        String code = group("```java\n(.*?)```", page);
        StandingQueries x = new StandingQueries();
        types(x, group("\"([^\"]*)\"\\.toCharArray", code));
        Matcher rows = Pattern.compile("(?m)^x\\.(\\w+)\\((.*?)\\);(.*)$").matcher(code);
        int answers = 0;
        for (; rows.find(); answers++) {
            Matcher want = Pattern.compile("// (-?\\d+)(:|$)").matcher(rows.group(3));
            String call = rows.group(1) + "(" + rows.group(2) + ")";
            due(call + " tells its answer", want.find() ? 1 : 0, 1);
            due(call, answer(x, rows.group(1), rows.group(2)), Long.parseLong(want.group(1)));
        }
        due("rows of the example", answers, code.split("\n").length - 4);
    }

    private static void everyCall(String page) {
        Matcher rows = Pattern.compile("(?m)^\\| `(\\w+)\\((.*?)\\)` \\|").matcher(page);
        int told = 0;
        for (; rows.find(); told++) {
            Method call = CALLS.get(rows.group(1));
            due("a call " + rows.group(1), call == null ? 0 : 1, 1);
            int arguments = rows.group(2).isEmpty() ? 0 : rows.group(2).split(",").length;
            due("arguments of " + rows.group(1), arguments, call == null ? -1 : call.getParameterCount());
        }
        due("calls that are told", told, CALLS.size());
    }

    private static void everyRefusal(String page) {
        String[] names = {"BAD", "STATE", "FULL", "NONE"};
        int[] numbers = {StandingQueries.BAD, StandingQueries.STATE, StandingQueries.FULL, StandingQueries.NONE};
        for (int i = 0; i < names.length; i++) {
            due(names[i], Integer.parseInt(group("`" + names[i] + "` \\((-\\d+)", page)), numbers[i]);
        }
    }

    private static void everyTest(String page) {
        try (DirectoryStream<Path> files = Files.newDirectoryStream(TESTS, "*.java")) {
            for (Path file : files) {
                String name = file.getFileName().toString();
                String told = name.endsWith("Tests.java") ? name.replace(".java", "") : name;
                due("the page names " + told, page.contains("`" + told + "`") ? 1 : 0, 1);
            }
        } catch (IOException unread) {
            throw new IllegalStateException(unread);
        }
        due("the page names .ci/run", page.contains("    .ci/run\n") && Files.isExecutable(Path.of(".ci/run")) ? 1 : 0, 1);
    }

    public static void main(String[] args) throws IOException {
        String page = Files.readString(PAGE);
        for (Method method : StandingQueries.class.getDeclaredMethods()) {
            if (Modifier.isPublic(method.getModifiers())) {
                CALLS.put(method.getName(), method);
            }
        }
        check("the example answers what it says", () -> example(page));
        check("every call has a row", () -> everyCall(page));
        check("every refusal is named", () -> everyRefusal(page));
        check("every test is named", () -> everyTest(page));
        end();
    }
}
