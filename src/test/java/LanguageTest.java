import java.io.IOException;
import java.lang.reflect.Constructor;
import java.lang.reflect.Field;
import java.lang.reflect.Method;
import java.lang.reflect.Modifier;
import java.nio.file.Files;
import java.nio.file.Path;
import java.util.Arrays;
import java.util.Comparator;
import java.util.HashMap;
import java.util.HashSet;
import java.util.Map;
import java.util.Random;
import java.util.Set;
import java.util.TreeMap;
import java.util.TreeSet;
import java.util.regex.Matcher;
import java.util.regex.Pattern;

/** The rules of LANGUAGE.md that can be seen from the class and from its source text. */
public final class LanguageTest {
    private static final Path SOURCE = Path.of("src/main/java/DirectoryTree.java");
    private static final String[] FACE = {
        "make/3", "remove/1", "move/3", "put/3", "drop/3", "allow/2", "token/3", "clear/0", "entries/0",
        "entryAt/1", "child/2", "valueAt/3", "test/1", "count/2", "found/3", "different/1"};
    private static final Set<Class<?>> FIELD_TYPES = Set.of(
        int.class, long.class, short.class, byte.class, char.class, boolean.class,
        int[].class, long[].class, short[].class, byte[].class, char[].class, boolean[].class);
    private static final String[] FORBIDDEN = {
        "import", "package", "throw", "try", "catch", "synchronized", "assert", "instanceof", "null",
        "float", "double", "String", "Math", "Integer", "System", "Arrays", "Object", "interface", "enum",
        "record", "extends", "implements", "protected", "->", "::", "\\]\\s*\\[", "\"", "hashCode", "toString"};
    private static final Pattern METHOD_START =
        Pattern.compile("^ {4}(?:public|private)(?: static)?(?: \\w+)? (\\w+)\\((.*)\\) \\{$");
    private static final Pattern CALL = Pattern.compile("\\b(\\w+)\\(");
    private static final Set<String> NO_CALLS = Set.of("if", "for", "while", "switch", "return");

    /** Edges of every range that an argument can have, and numbers far beyond them. */
    private static final int[] ARGUMENTS = {
        Integer.MIN_VALUE, -1001, -1000, -999, -1, 0, 0, 0, 1, 1, 2, 3, 4, 5, 6, 7, 8, 9, 10, 11, 12, 13, 14, 15, 16,
        17, 18, 19, 20, 21, 22, 23, 24, 25, 62, 63, 64, 215, 216, 999, 1000, Integer.MAX_VALUE};
    private static final int MANY_CALLS = 500_000;
    private static final Set<String> EMPTYING = Set.of("remove", "drop", "clear");

    private static int wrong = 0;

    public static void main(String[] args) throws IOException {
        String text = Files.readString(SOURCE);
        String code = text.replaceAll("(?s)/\\*.*?\\*/", "").replaceAll("//[^\n]*", "");
        face();
        fields();
        words(code);
        arrays(code);
        methods(code);
        nestedCalls(code);
        neverThrows();
        System.out.println(wrong + " rules broken");
        if (wrong != 0) {
            System.exit(1);
        }
    }

    private static void hold(boolean holds, String rule) {
        if (!holds) {
            wrong++;
            System.out.println(rule);
        }
    }

    private static void face() {
        Class<?> type = DirectoryTree.class;
        hold(type.getModifiers() == (Modifier.PUBLIC | Modifier.FINAL), "rule 1: the class is public and final");
        hold(type.getDeclaredClasses().length == 0, "rule 1: no nested class");
        Constructor<?>[] constructors = type.getDeclaredConstructors();
        hold(constructors.length == 1 && constructors[0].getParameterCount() == 0
            && Modifier.isPublic(constructors[0].getModifiers()), "rule 1: the constructor");
        Set<String> open = new TreeSet<>();
        Set<String> closed = new HashSet<>();
        for (Method method : type.getDeclaredMethods()) {
            if (Modifier.isPrivate(method.getModifiers())) {
                closed.add(method.getName());
            } else {
                hold(method.getReturnType() == int.class && method.getModifiers() == Modifier.PUBLIC,
                    "rule 1: " + method.getName() + " answers an int and is public alone");
                hold(Arrays.stream(method.getParameterTypes()).allMatch(taken -> taken == int.class),
                    "rule 1: " + method.getName() + " takes ints alone");
                open.add(method.getName() + "/" + method.getParameterCount());
            }
        }
        hold(open.equals(new TreeSet<>(Set.of(FACE))), "rule 1: the public methods are " + open);
        for (String name : FACE) {
            hold(!closed.contains(name.replaceAll("/.*", "")), "rule 1: a private method has the name of " + name);
        }
    }

    private static void fields() {
        int held = 0;
        for (Field field : DirectoryTree.class.getDeclaredFields()) {
            int modifiers = field.getModifiers();
            hold(Modifier.isPrivate(modifiers), "rule 1: " + field.getName() + " is private");
            hold(FIELD_TYPES.contains(field.getType()), "rule 2: the type of " + field.getName());
            if (Modifier.isStatic(modifiers)) {
                hold(Modifier.isFinal(modifiers) && (field.getType() == int.class || field.getType() == long.class),
                    "rule 5: " + field.getName() + " is a constant of int or long");
            } else {
                held++;
                hold(!field.getType().isArray() || Modifier.isFinal(modifiers),
                    "rule 4: " + field.getName() + " is never assigned again");
            }
        }
        hold(held <= 40, "rule 10: " + held + " fields");
    }

    private static void words(String code) {
        for (String word : FORBIDDEN) {
            String pattern = word.matches("\\w+") ? "\\b" + word + "\\b" : word;
            hold(!Pattern.compile(pattern).matcher(code).find(), "rules 2, 3 and 6: " + word);
        }
        hold(!code.contains("static {"), "rule 5: no static initialiser");
    }

    private static void arrays(String code) {
        for (String line : code.split("\n")) {
            if (line.contains("new ")) {
                hold(line.matches(" {4}private final (int|boolean)\\[\\] \\w+ = new (int|boolean)\\[[A-Z_0-9]+\\];"),
                    "rule 4: an array is made in a field's initialiser, not so: " + line);
            }
        }
    }

    private static void methods(String code) {
        Map<String, Set<String>> calls = new TreeMap<>();
        String name = null;
        int lines = 0;
        for (String line : code.split("\n")) {
            Matcher start = METHOD_START.matcher(line);
            if (start.matches()) {
                name = start.group(1);
                lines = 0;
                calls.put(name, new TreeSet<>());
                hold(start.group(2).split(",").length <= 7, "rule 10: the parameters of " + name);
            } else if (line.equals("    }")) {
                hold(lines <= 60, "rule 10: the length of " + name);
                name = null;
            } else if (name != null) {
                lines++;
                Matcher call = CALL.matcher(line);
                while (call.find()) {
                    if (!NO_CALLS.contains(call.group(1))) {
                        calls.get(name).add(call.group(1));
                    }
                }
            }
        }
        hold(calls.size() == DirectoryTree.class.getDeclaredMethods().length + 1, "the methods were all seen");
        Map<String, Integer> depths = new HashMap<>();
        for (String method : calls.keySet()) {
            hold(depth(method, calls, depths, new HashSet<>()) <= 6, "rules 8 and 10: the calls below " + method);
        }
    }

    private static int depth(String name, Map<String, Set<String>> calls, Map<String, Integer> known, Set<String> above) {
        if (known.containsKey(name)) {
            return known.get(name);
        }
        if (!calls.containsKey(name) || !above.add(name)) {
            hold(false, "rules 3 and 8: " + name + " is no method of the class, or calls itself");
            return 1000;
        }
        int deepest = 0;
        for (String called : calls.get(name)) {
            deepest = Math.max(deepest, depth(called, calls, known, above));
        }
        above.remove(name);
        known.put(name, deepest + 1);
        return deepest + 1;
    }

    private static void nestedCalls(String code) {
        boolean[] isCall = new boolean[code.length() + 1];
        int depth = 0;
        for (int at = 0; at < code.length(); at++) {
            if (code.charAt(at) == '(') {
                Matcher before = Pattern.compile("(\\w+)$").matcher(code.substring(Math.max(0, at - 40), at));
                isCall[depth + 1] = before.find() && !NO_CALLS.contains(before.group(1));
                for (int outer = 1; outer <= depth && isCall[depth + 1]; outer++) {
                    hold(!isCall[outer], "rule 10: a call in a call's arguments near " + code.substring(at - 20, at));
                }
                depth++;
            } else if (code.charAt(at) == ')') {
                depth--;
            }
        }
    }

    /**
     * One object far beyond its 512 calls: what it answers is free there, but it answers. The calls that empty it
     * are rare, so that the tree, the sets of values and the stack get full in between.
     */
    private static void neverThrows() {
        Method[] calls = Arrays.stream(DirectoryTree.class.getDeclaredMethods())
            .filter(method -> Modifier.isPublic(method.getModifiers()))
            .sorted(Comparator.comparing(Method::getName)).toArray(Method[]::new);
        Random random = new Random(7);
        DirectoryTree x = new DirectoryTree();
        for (int made = 0; made < MANY_CALLS; made++) {
            Method call = calls[random.nextInt(calls.length)];
            if (EMPTYING.contains(call.getName()) && random.nextInt(500) != 0) {
                continue;
            }
            Object[] arguments = random.ints(call.getParameterCount(), 0, ARGUMENTS.length)
                .mapToObj(at -> ARGUMENTS[at]).toArray();
            try {
                call.invoke(x, arguments);
            } catch (ReflectiveOperationException thrown) {
                hold(false, "rule 7: " + call.getName() + Arrays.toString(arguments) + " threw " + thrown.getCause());
                return;
            }
        }
    }
}
