import java.util.ArrayDeque;
import java.util.ArrayList;
import java.util.Comparator;
import java.util.HashMap;
import java.util.HashSet;
import java.util.List;
import java.util.Map;
import java.util.Random;
import java.util.Set;
import java.util.TreeMap;
import java.util.function.IntUnaryOperator;

/**
 * Long runs of calls, the same ones every time, answered both by the class and by a model that
 * holds the directory in quite another way: words as text, filters as functions, the tree as maps.
 */
public final class RandomRunsTest {
    private static final int RUNS = 4000;
    private static final int CALLS = 512;
    private static final int CALL_KINDS = 16;
    private static final String[] CALL_NAMES = {
        "make", "remove", "move", "put", "drop", "allow", "token", "clear",
        "entries", "entryAt", "child", "valueAt", "test", "count", "found", "different"};
    private static final int[] FAR_OFF = {
        Integer.MIN_VALUE, Integer.MAX_VALUE, -1, -2, 24, 64, 216, 1000, -1000, 32, 1 << 16};

    public static void main(String[] args) {
        int wrong = 0;
        Map<String, Integer> answers = new TreeMap<>();
        for (int run = 0; run < RUNS && wrong < 5; run++) {
            wrong += run(run, answers);
        }
        wrong += unseen(answers);
        System.out.println(RUNS + " runs of " + CALLS + " calls, " + wrong + " faults");
        if (wrong != 0) {
            System.exit(1);
        }
    }

    private static int run(int run, Map<String, Integer> answers) {
        Random random = new Random(run);
        DirectoryTree x = new DirectoryTree();
        Model model = new Model();
        List<String> told = new ArrayList<>();
        for (int call = 0; call < CALLS; call++) {
            int[] c = nextCall(random, run);
            int got = ask(x, c);
            int want = model.ask(c);
            String text = CALL_NAMES[c[0]] + "(" + c[1] + ", " + c[2] + ", " + c[3] + ")";
            told.add(text + " = " + want);
            answers.merge(CALL_NAMES[c[0]] + " " + (want < 0 ? want : "fine"), 1, Integer::sum);
            if (got != want) {
                System.out.println("run " + run + ", call " + call + ": " + text + " answered " + got
                    + ", due is " + want + "; the calls before: " + told);
                return 1;
            }
        }
        return 0;
    }

    /** The refusals that the document names must all come up, or the runs would show too little. */
    private static int unseen(Map<String, Integer> answers) {
        String[] due = {
            "make fine", "make -1", "make -2", "make -3", "make -4", "make -5",
            "remove fine", "remove -1", "remove -2",
            "move fine", "move -1", "move -2", "move -3", "move -4",
            "put fine", "put -1", "put -2", "put -3", "put -4", "put -5",
            "drop fine", "drop -1", "drop -2", "drop -3",
            "allow fine", "allow -2", "allow -3",
            "token fine", "token -1", "token -2", "token -3", "token -4",
            "clear fine", "entries fine", "entryAt fine", "entryAt -2",
            "child fine", "child -1", "child -2",
            "valueAt fine", "valueAt -1000", "valueAt -1001",
            "test fine", "test -1", "test -2",
            "count fine", "count -1", "count -2", "count -3",
            "found fine", "found -1", "found -2", "found -3", "found -4",
            "different fine", "different -2"};
        int missing = 0;
        for (String answer : due) {
            if (answers.getOrDefault(answer, 0) < 50) {
                System.out.println("hardly ever due: " + answer);
                missing++;
            }
        }
        return missing;
    }

    private static int ask(DirectoryTree x, int[] c) {
        switch (c[0]) {
            case 0: return x.make(c[1], c[2], c[3]);
            case 1: return x.remove(c[1]);
            case 2: return x.move(c[1], c[2], c[3]);
            case 3: return x.put(c[1], c[2], c[3]);
            case 4: return x.drop(c[1], c[2], c[3]);
            case 5: return x.allow(c[1], c[2]);
            case 6: return x.token(c[1], c[2], c[3]);
            case 7: return x.clear();
            case 8: return x.entries();
            case 9: return x.entryAt(c[1]);
            case 10: return x.child(c[1], c[2]);
            case 11: return x.valueAt(c[1], c[2], c[3]);
            case 12: return x.test(c[1]);
            case 13: return x.count(c[1], c[2]);
            case 14: return x.found(c[1], c[2], c[3]);
            default: return x.different(c[1]);
        }
    }

    /** The runs differ in how large the tree grows and how many attributes and values are in play. */
    private static int[] nextCall(Random random, int run) {
        int entries = new int[] {4, 10, 24, 25}[run % 4];
        int names = run / 4 % 2 == 0 ? 11 : 4;
        int attributes = run / 8 % 2 == 0 ? 6 : 2;
        int[] weights = {10, run % 4 == 3 ? 0 : 2, 6, 16, 5, 4, 12, 1, 2, 8, 4, 8, 8, 6, 10, 2};
        int kind = pick(random, weights);
        int[] c = {kind, 0, 0, 0};
        int attribute = attributes == 2 ? random.nextInt(2) * 4 : random.nextInt(6);
        int word = random.nextInt(3) == 0 ? random.nextInt(217) : new int[] {0, 1, 2, 7, 8, 13, 43, 80}[random.nextInt(8)];
        int number = random.nextInt(4) == 0 ? random.nextInt(2003) - 1001 : random.nextInt(7) - 3;
        int v = attribute < 4 ? word : number;
        switch (kind) {
            case 0: set(c, random.nextInt(entries), random.nextInt(names), random.nextInt(4)); break;
            case 2: set(c, random.nextInt(entries), random.nextInt(entries), random.nextInt(names)); break;
            case 3: case 4: set(c, random.nextInt(entries), attribute, v); break;
            case 5: set(c, random.nextInt(4), random.nextInt(4) == 0 ? random.nextInt(64) : 63 & ~(1 << random.nextInt(6)), 0); break;
            case 6: set(c, random.nextInt(8), attribute, v); break;
            case 9: set(c, random.nextInt(entries), 0, 0); break;
            case 10: set(c, random.nextInt(entries), random.nextInt(names), 0); break;
            case 11: set(c, random.nextInt(entries), attribute, random.nextInt(5)); break;
            case 13: set(c, random.nextInt(3) == 0 ? 0 : random.nextInt(entries), random.nextInt(4), 0); break;
            case 14: set(c, random.nextInt(3) == 0 ? 0 : random.nextInt(entries), random.nextInt(4), random.nextInt(6)); break;
            case 15: set(c, attribute, 0, 0); break;
            default: set(c, random.nextInt(entries), 0, 0);
        }
        if (random.nextInt(12) == 0) {
            c[1 + random.nextInt(3)] = FAR_OFF[random.nextInt(FAR_OFF.length)];
        }
        return c;
    }

    private static int pick(Random random, int[] weights) {
        int sum = 0;
        for (int weight : weights) {
            sum += weight;
        }
        int at = random.nextInt(sum);
        for (int kind = 0; kind < CALL_KINDS; kind++) {
            at -= weights[kind];
            if (at < 0) {
                return kind;
            }
        }
        return 0;
    }

    private static void set(int[] c, int first, int second, int third) {
        c[1] = first;
        c[2] = second;
        c[3] = third;
    }

    private static final class Entry {
        final int kind;
        final List<Set<Integer>> values = new ArrayList<>();
        final TreeMap<Integer, Integer> children = new TreeMap<>();
        int parent;
        int name;

        Entry(int parent, int name, int kind) {
            this.parent = parent;
            this.name = name;
            this.kind = kind;
            for (int attribute = 0; attribute < 6; attribute++) {
                values.add(new HashSet<>());
            }
        }
    }

    private static final class Model {
        private static final Map<Integer, String> WORDS = allWords();

        final TreeMap<Integer, Entry> tree = new TreeMap<>();
        final List<Set<Integer>> allowed = new ArrayList<>();
        final ArrayDeque<IntUnaryOperator> stack = new ArrayDeque<>();
        int tokens = 0;

        Model() {
            tree.put(0, new Entry(-1, -1, 0));
            for (int kind = 0; kind < 4; kind++) {
                allowed.add(setFrom(63));
            }
        }

        static Map<Integer, String> allWords() {
            Map<Integer, String> words = new HashMap<>();
            words.put(0, "");
            for (int a = 1; a <= 5; a++) {
                words.put(a, "" + a);
                for (int b = 1; b <= 5; b++) {
                    words.put(a + 6 * b, "" + a + b);
                    for (int c = 1; c <= 5; c++) {
                        words.put(a + 6 * b + 36 * c, "" + a + b + c);
                    }
                }
            }
            return words;
        }

        static Set<Integer> setFrom(int digits) {
            Set<Integer> set = new HashSet<>();
            for (int a = 0, rest = digits; a < 6; a++, rest /= 2) {
                if (rest % 2 == 1) {
                    set.add(a);
                }
            }
            return set;
        }

        static int digitsOf(Set<Integer> set) {
            int digits = 0;
            for (int a : set) {
                digits += (int) Math.pow(2, a);
            }
            return digits;
        }

        static boolean within(int n, int least, int greatest) {
            return least <= n && n <= greatest;
        }

        static boolean possible(int a, int v) {
            return a < 4 ? WORDS.containsKey(v) : within(v, -999, 999);
        }

        static int compare(int a, int v, int w) {
            return a < 4 ? WORDS.get(v).compareTo(WORDS.get(w)) : Integer.compare(v, w);
        }

        int ask(int[] c) {
            switch (c[0]) {
                case 0: return make(c[1], c[2], c[3]);
                case 1: return remove(c[1]);
                case 2: return move(c[1], c[2], c[3]);
                case 3: return put(c[1], c[2], c[3]);
                case 4: return drop(c[1], c[2], c[3]);
                case 5: return allow(c[1], c[2]);
                case 6: return token(c[1], c[2], c[3]);
                case 7: return clear();
                case 8: return tree.size();
                case 9: return at(inOrder(0), c[1], -2);
                case 10: return tree.containsKey(c[1]) ? tree.get(c[1]).children.getOrDefault(c[2], -2) : -1;
                case 11: return valueAt(c[1], c[2], c[3]);
                case 12: return test(c[1]);
                case 13: return search(c[1], c[2], 0, true);
                case 14: return search(c[1], c[2], c[3], false);
                default: return different(c[1]);
            }
        }

        static int at(List<Integer> list, int k, int otherwise) {
            return within(k, 0, list.size() - 1) ? list.get(k) : otherwise;
        }

        List<Integer> inOrder(int top) {
            List<Integer> list = new ArrayList<>();
            list.add(top);
            for (int child : tree.get(top).children.values()) {
                list.addAll(inOrder(child));
            }
            return list;
        }

        int make(int parent, int name, int kind) {
            if (!tree.containsKey(parent)) return -1;
            if (!within(name, 0, 9)) return -2;
            if (tree.get(parent).children.containsKey(name)) return -3;
            if (!within(kind, 0, 3)) return -4;
            if (tree.size() == 24) return -5;
            int number = 0;
            while (tree.containsKey(number)) number++;
            tree.put(number, new Entry(parent, name, kind));
            tree.get(parent).children.put(name, number);
            return number;
        }

        int remove(int entry) {
            if (!tree.containsKey(entry)) return -1;
            if (entry == 0) return -2;
            List<Integer> going = inOrder(entry);
            tree.get(tree.get(entry).parent).children.remove(tree.get(entry).name);
            tree.keySet().removeAll(going);
            return going.size();
        }

        int move(int entry, int parent, int name) {
            if (!tree.containsKey(entry) || !tree.containsKey(parent)) return -1;
            if (entry == 0 || inOrder(entry).contains(parent)) return -2;
            if (!within(name, 0, 9)) return -3;
            if (tree.get(parent).children.getOrDefault(name, entry) != entry) return -4;
            Entry moved = tree.get(entry);
            tree.get(moved.parent).children.remove(moved.name);
            tree.get(parent).children.put(name, entry);
            moved.parent = parent;
            moved.name = name;
            return 1;
        }

        int put(int entry, int a, int v) {
            if (!tree.containsKey(entry)) return -1;
            if (!within(a, 0, 5) || !possible(a, v)) return -2;
            if (!allowed.get(tree.get(entry).kind).contains(a)) return -3;
            Set<Integer> set = tree.get(entry).values.get(a);
            if (set.contains(v)) return -4;
            if (set.size() == 4) return -5;
            set.add(v);
            return set.size();
        }

        int drop(int entry, int a, int v) {
            if (!tree.containsKey(entry)) return -1;
            if (!within(a, 0, 5)) return -2;
            Set<Integer> set = tree.get(entry).values.get(a);
            return set.remove(v) ? set.size() : -3;
        }

        int allow(int kind, int digits) {
            if (!within(kind, 0, 3) || !within(digits, 0, 63)) return -2;
            Set<Integer> next = setFrom(digits);
            for (Entry entry : tree.values()) {
                for (int a = 0; a < 6; a++) {
                    if (entry.kind == kind && !entry.values.get(a).isEmpty() && !next.contains(a)) return -3;
                }
            }
            return digitsOf(allowed.set(kind, next));
        }

        int token(int kind, int a, int v) {
            if (!within(kind, 0, 7) || (kind < 5 && !within(a, 0, 5))) return -1;
            if (tokens == 20) return -2;
            if (stack.size() < new int[] {0, 0, 0, 0, 0, 1, 2, 2}[kind]) return -3;
            if (kind < 5 && stack.size() == 6) return -4;
            tokens++;
            if (kind < 5) {
                stack.push(entry -> leaf(tree.get(entry), kind, a, v));
            } else if (kind == 5) {
                IntUnaryOperator f = stack.pop();
                stack.push(entry -> new int[] {1, 0, 2}[f.applyAsInt(entry)]);
            } else {
                IntUnaryOperator g = stack.pop();
                IntUnaryOperator f = stack.pop();
                int[][] table = kind == 6
                    ? new int[][] {{0, 0, 0}, {0, 1, 2}, {0, 2, 2}}
                    : new int[][] {{0, 1, 2}, {1, 1, 1}, {2, 1, 2}};
                stack.push(entry -> table[f.applyAsInt(entry)][g.applyAsInt(entry)]);
            }
            return stack.size();
        }

        int leaf(Entry entry, int kind, int a, int v) {
            if (!allowed.get(entry.kind).contains(a)) return 2;
            if (kind != 0 && !possible(a, v)) return 2;
            if (kind >= 3 && a >= 4) return 2;
            for (int value : entry.values.get(a)) {
                if (kind == 0
                    || kind == 1 && value == v
                    || kind == 2 && compare(a, value, v) >= 0
                    || kind == 3 && WORDS.get(value).startsWith(WORDS.get(v))
                    || kind == 4 && WORDS.get(value).contains(WORDS.get(v))) {
                    return 1;
                }
            }
            return 0;
        }

        int clear() {
            int before = stack.size();
            stack.clear();
            tokens = 0;
            return before;
        }

        int valueAt(int entry, int a, int k) {
            if (!tree.containsKey(entry)) return -1000;
            if (!within(a, 0, 5)) return -1001;
            List<Integer> rising = new ArrayList<>(tree.get(entry).values.get(a));
            Comparator<Integer> comparator = (v, w) -> compare(a, v, w);
            rising.sort(comparator);
            return at(rising, k, -1001);
        }

        int test(int entry) {
            if (!tree.containsKey(entry)) return -1;
            return stack.isEmpty() ? -2 : stack.peek().applyAsInt(entry);
        }

        int search(int entry, int scope, int k, boolean isCount) {
            if (!tree.containsKey(entry)) return -1;
            if (!within(scope, 0, 3)) return -2;
            if (stack.isEmpty()) return -3;
            List<Integer> hits = inOrder(entry);
            if (scope == 0) hits.removeIf(e -> e != entry);
            if (scope == 1) hits.removeIf(e -> tree.get(e).parent != entry);
            if (scope == 3) hits.removeIf(e -> e == entry);
            hits.removeIf(e -> stack.peek().applyAsInt(e) != 1);
            return isCount ? hits.size() : at(hits, k, -4);
        }

        int different(int a) {
            if (!within(a, 0, 5)) return -2;
            Set<Integer> all = new HashSet<>();
            tree.values().forEach(entry -> all.addAll(entry.values.get(a)));
            return all.size();
        }
    }
}
