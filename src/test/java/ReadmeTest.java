import java.io.IOException;
import java.lang.reflect.Method;
import java.lang.reflect.Modifier;
import java.nio.file.Files;
import java.nio.file.Path;
import java.util.ArrayList;
import java.util.HashMap;
import java.util.List;
import java.util.Map;
import java.util.TreeSet;
import java.util.regex.Matcher;
import java.util.regex.Pattern;

/** README.md is run: each line of its example answers what it says, and its table has every call. */
public final class ReadmeTest {
    private static final Due DUE = new Due();
    private static final Pattern MADE = Pattern.compile("MergeQueue queue = new MergeQueue\\((\\d), (\\d), (\\d)\\);.*");
    private static final Pattern CALL =
        Pattern.compile("(?:int (\\w+) = )?queue\\.(\\w+)\\((.*?)\\); +// (-?\\w+)(?:: .*)?");
    private static final Pattern ROW = Pattern.compile("\\| `(\\w+)\\(.*");

    private final MergeQueue queue;
    private final Map<String, Integer> variables = new HashMap<>();

    private ReadmeTest(Matcher made) {
        queue = new MergeQueue(number(made, 1), number(made, 2), number(made, 3));
    }

    public static void main(String[] args) throws IOException, ReflectiveOperationException {
        List<String> lines = Files.readAllLines(Path.of("README.md"));
        runExample(example(lines));
        DUE.is("the calls of the table", callsOfTable(lines).toString(), face().toString());
        DUE.finish();
    }

    private static List<String> example(List<String> lines) {
        int begin = lines.indexOf("```java") + 1;
        int end = begin + lines.subList(begin, lines.size()).indexOf("```");
        return lines.subList(begin, end);
    }

    private static void runExample(List<String> lines) throws ReflectiveOperationException {
        Matcher made = MADE.matcher(lines.get(0));
        DUE.is("the first line makes an object", made.matches(), true);
        ReadmeTest test = new ReadmeTest(made);
        for (String line : lines.subList(1, lines.size())) {
            test.runLine(line);
        }
    }

    private static int number(Matcher made, int group) {
        return Integer.parseInt(made.group(group));
    }

    private void runLine(String line) throws ReflectiveOperationException {
        Matcher call = CALL.matcher(line);
        if (!call.matches()) {
            DUE.tell("no call with its answer: " + line);
            return;
        }
        Object answer = call(call.group(2), call.group(3));
        DUE.is(line, answer.toString(), value(call.group(4)).toString());
        if (call.group(1) != null) {
            variables.put(call.group(1), (Integer) answer);
        }
    }

    private Object call(String name, String written) throws ReflectiveOperationException {
        List<Object> values = new ArrayList<>();
        List<Class<?>> types = new ArrayList<>();
        for (String argument : written.isEmpty() ? new String[0] : written.split(", ")) {
            Object value = value(argument);
            values.add(value);
            types.add(value instanceof Boolean ? boolean.class : int.class);
        }
        return MergeQueue.class.getMethod(name, types.toArray(new Class<?>[0])).invoke(queue, values.toArray());
    }

    private Object value(String written) {
        if (written.equals("true") || written.equals("false")) {
            return Boolean.valueOf(written);
        }
        if (variables.containsKey(written)) {
            return variables.get(written);
        }
        return written.startsWith("0b") ? Integer.valueOf(written.substring(2), 2) : Integer.valueOf(written);
    }

    private static TreeSet<String> callsOfTable(List<String> lines) {
        TreeSet<String> calls = new TreeSet<>();
        for (String line : lines) {
            Matcher row = ROW.matcher(line);
            if (row.matches()) {
                calls.add(row.group(1));
            }
        }
        return calls;
    }

    private static TreeSet<String> face() {
        TreeSet<String> names = new TreeSet<>();
        for (Method m : MergeQueue.class.getDeclaredMethods()) {
            if (Modifier.isPublic(m.getModifiers())) {
                names.add(m.getName());
            }
        }
        return names;
    }
}
