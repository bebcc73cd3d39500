import java.io.IOException;
import java.lang.reflect.Method;
import java.nio.file.Files;
import java.nio.file.Path;
import java.util.Map;
import java.util.Set;
import java.util.TreeMap;
import java.util.TreeSet;
import java.util.regex.Matcher;
import java.util.regex.Pattern;

/** What README.md says of the class: its example, run line by line, and its tables. */
public final class ReadmeTest {
    private static final Check CHECK = new Check();
    private static final Pattern TEXT = Pattern.compile("String path = \"([^\"]*)\";");
    private static final Pattern CALL = Pattern.compile("router\\.(\\w+)\\(([^)]*)\\);");
    private static final Pattern ANSWER = Pattern.compile("// (the bits of )?(-?\\d+(?:\\.\\d+)?)");
    private static final Pattern CALL_ROW = Pattern.compile("(?m)^\\| `(\\w+)\\(([^)]*)\\)` \\|");
    private static final Pattern CONSTANT_ROW = Pattern.compile("(?m)^\\| `([A-Z_]+)` \\| (-\\d+) \\|");

    private final RotorRouter router = new RotorRouter();
    /** The example's own variables. */
    private final Map<String, Integer> variables = new TreeMap<>();

    public static void main(String[] args) throws IOException, ReflectiveOperationException {
        String readme = Files.readString(Path.of("README.md"));
        new ReadmeTest().example(readme);
        calls(readme);
        constants(readme);
        CHECK.finish();
    }

    private void example(String readme) throws ReflectiveOperationException {
        int begin = readme.indexOf("```java\n");
        CHECK.holds("there is an example", begin >= 0);
        String code = readme.substring(begin + 8, readme.indexOf("```\n", begin + 8));
        int answers = 0;
        for (String line : code.split("\n")) {
            Matcher text = TEXT.matcher(line);
            Matcher call = CALL.matcher(line);
            if (text.find()) {
                Routers.type(router, text.group(1));
            } else if (call.find() && !call.group(1).equals("append")) {
                answers++;
                answer(line, call.group(1), call.group(2));
            }
        }
        CHECK.due("calls of the example", answers, 15);
    }

    private void answer(String line, String name, String arguments) throws ReflectiveOperationException {
        long got = call(name, arguments);
        if (line.startsWith("int ")) {
            variables.put(line.substring(4, line.indexOf(" =")), (int) got);
        }
        Matcher answer = ANSWER.matcher(line);
        if (!answer.find()) {
            CHECK.holds(line + " tells its answer", false);
        } else if (answer.group(1) != null) {
            CHECK.due(line, got, Double.doubleToLongBits(Double.parseDouble(answer.group(2))));
        } else {
            CHECK.due(line, got, Long.parseLong(answer.group(2)));
        }
    }

    private long call(String name, String arguments) throws ReflectiveOperationException {
        String[] words = arguments.isEmpty() ? new String[0] : arguments.split(", ");
        Method method = face().get(name);
        Object[] values = new Object[words.length];
        for (int i = 0; i < words.length; i++) {
            values[i] = method.getParameterTypes()[i] == boolean.class ? (Object) Boolean.valueOf(words[i])
                : variables.containsKey(words[i]) ? variables.get(words[i]) : Integer.valueOf(words[i]);
        }
        return ((Number) method.invoke(router, values)).longValue();
    }

    private static Map<String, Method> face() {
        Map<String, Method> face = new TreeMap<>();
        for (Method method : RotorRouter.class.getMethods()) {
            if (method.getDeclaringClass() == RotorRouter.class) {
                face.put(method.getName(), method);
            }
        }
        return face;
    }

    private static void calls(String readme) {
        Set<String> told = new TreeSet<>();
        Matcher row = CALL_ROW.matcher(readme);
        while (row.find()) {
            int parameters = row.group(2).isEmpty() ? 0 : row.group(2).split(", ").length;
            told.add(row.group(1) + " with " + parameters);
        }
        Set<String> due = new TreeSet<>();
        for (Method method : face().values()) {
            due.add(method.getName() + " with " + method.getParameterCount());
        }
        CHECK.same("the calls", told.toString(), due.toString());
    }

    private static void constants(String readme) throws ReflectiveOperationException {
        int rows = 0;
        Matcher row = CONSTANT_ROW.matcher(readme);
        while (row.find()) {
            rows++;
            int due = RotorRouter.class.getField(row.group(1)).getInt(null);
            CHECK.due(row.group(1), Long.parseLong(row.group(2)), due);
        }
        CHECK.due("constants", rows, RotorRouter.class.getFields().length);
    }
}
