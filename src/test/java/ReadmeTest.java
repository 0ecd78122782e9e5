import java.io.IOException;
import java.lang.reflect.Method;
import java.lang.reflect.Modifier;
import java.nio.file.Files;
import java.nio.file.Path;
import java.util.Arrays;
import java.util.HashMap;
import java.util.HashSet;
import java.util.List;
import java.util.Map;
import java.util.Set;
import java.util.TreeSet;
import java.util.regex.Matcher;
import java.util.regex.Pattern;

/** README.md: its example answers what it says, and its table has every call with its refusals. */
public final class ReadmeTest extends Checks {
    private static final Pattern EXAMPLE =
        Pattern.compile("(?:int (\\w+) = )?x\\.(\\w+)\\((.*?)\\); +// (-?\\d+)\\b.*");
    private static final Pattern ROW = Pattern.compile("\\| `(\\w+)\\((.*?)\\)` \\|.*\\|(.*)\\|");
    private static final Pattern PROMISE = Pattern.compile("`int (\\w+)\\((.*?)\\)`: (.*)");
    private static final Pattern REFUSAL = Pattern.compile("-\\d+");

    private static final Map<String, Method> CALLS = new HashMap<>();

    public static void main(String[] args) throws IOException {
        for (Method method : DirectoryTree.class.getDeclaredMethods()) {
            if (Modifier.isPublic(method.getModifiers())) {
                CALLS.put(method.getName(), method);
            }
        }
        List<String> readme = Files.readAllLines(Path.of("README.md"));
        List<String> document = Files.readAllLines(Path.of("../shared/DOC.md"));
        sentence("README: the example", () -> example(readme));
        sentence("README: the table", () -> table(readme, document));
        end();
    }

    private static void example(List<String> readme) {
        int first = readme.indexOf("```java") + 1;
        hold("the example begins with a new object", readme.get(first).equals("DirectoryTree x = new DirectoryTree();"));
        DirectoryTree x = new DirectoryTree();
        Map<String, Integer> names = new HashMap<>();
        for (String line : readme.subList(first + 1, readme.indexOf("```"))) {
            Matcher call = EXAMPLE.matcher(line);
            if (call.matches()) {
                int got = answer(x, call.group(2), call.group(3), names);
                due(line, got, Integer.parseInt(call.group(4)));
                if (call.group(1) != null) {
                    names.put(call.group(1), got);
                }
            } else {
                hold("a call with its answer, not so: " + line, line.isEmpty());
            }
        }
    }

    private static int answer(DirectoryTree x, String name, String arguments, Map<String, Integer> names) {
        Object[] given = Arrays.stream(arguments.split(", ")).filter(argument -> !argument.isEmpty())
            .map(argument -> names.containsKey(argument) ? names.get(argument) : Integer.valueOf(argument)).toArray();
        try {
            return (Integer) CALLS.get(name).invoke(x, given);
        } catch (ReflectiveOperationException thrown) {
            throw new IllegalStateException(thrown);
        }
    }

    private static void table(List<String> readme, List<String> document) {
        Map<String, Set<String>> due = refusals(document, PROMISE);
        Map<String, Set<String>> told = refusals(readme, ROW);
        hold("the document's calls are the class's, not " + due.keySet(), due.size() == CALLS.size());
        Set<String> all = new HashSet<>(due.keySet());
        all.addAll(told.keySet());
        for (String call : all) {
            hold(call + " is told with " + told.get(call) + ", due is " + due.get(call),
                due.containsKey(call) && due.get(call).equals(told.get(call)));
        }
    }

    /** Each call, with the names of its parameters, and the negative numbers that are told behind it. */
    private static Map<String, Set<String>> refusals(List<String> lines, Pattern form) {
        Map<String, Set<String>> calls = new HashMap<>();
        for (String line : lines) {
            Matcher call = form.matcher(line);
            if (call.matches()) {
                Set<String> numbers = new TreeSet<>();
                Matcher number = REFUSAL.matcher(call.group(3));
                while (number.find()) {
                    numbers.add(number.group());
                }
                calls.put(call.group(1) + "(" + call.group(2).replace("int ", "") + ")", numbers);
            }
        }
        return calls;
    }
}
