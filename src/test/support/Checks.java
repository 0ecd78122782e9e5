import java.util.Arrays;
import java.util.stream.IntStream;

/** What the tests share: they count the answers that are not as due, and make the same trees. */
abstract class Checks {
    static final int LEAST = Integer.MIN_VALUE;
    static final int GREATEST = Integer.MAX_VALUE;

    static final int PRESENT = 0;
    static final int EQUAL = 1;
    static final int ATLEAST = 2;
    static final int BEGINS = 3;
    static final int CONTAINS = 4;
    static final int NOT = 5;
    static final int AND = 6;
    static final int OR = 7;

    /** What NOT, AND and OR make of 0 false, 1 true and 2 undefined. */
    static final int[] NOT_OF = {1, 0, 2};
    static final int[][] AND_OF = {{0, 0, 0}, {0, 1, 2}, {0, 2, 2}};
    static final int[][] OR_OF = {{0, 1, 2}, {1, 1, 1}, {2, 1, 2}};

    private static int checks = 0;
    private static int wrong = 0;
    private static String sentence = "";

    /** Runs the test of one sentence of the document; what it finds wrong is told under these words. */
    static void sentence(String words, Runnable test) {
        int before = checks;
        sentence = words + " | ";
        try {
            test.run();
        } catch (RuntimeException thrown) {
            hold("no call throws, but: " + thrown, false);
        }
        hold("something is looked at", checks > before);
        sentence = "";
    }

    static void hold(String what, boolean holds) {
        checks++;
        if (!holds) {
            wrong++;
            System.out.println(sentence + what);
        }
    }

    static void due(String what, int got, int want) {
        hold(what + ": answered " + got + ", due is " + want, got == want);
    }

    static void end() {
        System.out.println(checks + " answers looked at, " + wrong + " not as due");
        if (wrong != 0) {
            System.exit(1);
        }
    }

    /** The numbers beside a range, the farthest ones, and those that only a wrap-around would bring into it. */
    static int[] outside(int least, int greatest) {
        int[] all = {LEAST, least - 65536, least - 256, least - 1, greatest + 1, least + 256, least + 65536, GREATEST};
        return Arrays.stream(all).filter(n -> n < least || n > greatest).toArray();
    }

    /** Numbers that no entry has in an object whose entries are numbered 0 to the greatest. */
    static int[] noEntries(int greatest) {
        return IntStream.concat(Arrays.stream(outside(0, greatest)), IntStream.of(23, 24, 32))
            .filter(n -> n < 0 || n > greatest).distinct().toArray();
    }

    static int word(int... letters) {
        int number = 0;
        for (int i = letters.length - 1; i >= 0; i--) {
            number = number * 6 + letters[i];
        }
        return number;
    }

    /** What one token alone is for an entry. */
    static int alone(DirectoryTree x, int entry, int kind, int attribute, int v) {
        x.clear();
        x.token(kind, attribute, v);
        return x.test(entry);
    }

    /** Puts a token that is true, false or undefined (2) for a root that has the value 1 for 4. */
    static void putConstant(DirectoryTree x, int truth) {
        x.token(EQUAL, 4, truth == 1 ? 1 : truth == 0 ? 2 : 1000);
    }

    /** Puts a filter that is true for every entry without words of attribute 0. */
    static void putTrue(DirectoryTree x) {
        x.token(PRESENT, 0, 0);
        x.token(NOT, 0, 0);
    }

    static void putTokens(DirectoryTree x, int kind, int times) {
        for (int put = 0; put < times; put++) {
            x.token(kind, 0, 0);
        }
    }

    static void putValues(DirectoryTree x, int entry, int attribute, int... values) {
        for (int v : values) {
            x.put(entry, attribute, v);
        }
    }

    static void dueOrder(String what, DirectoryTree x, int... want) {
        due(what + ", entries", x.entries(), want.length);
        for (int k = 0; k < want.length; k++) {
            due(what + ", entryAt(" + k + ")", x.entryAt(k), want[k]);
        }
        due(what + ", behind the last", x.entryAt(want.length), -2);
    }

    static void dueValues(String what, DirectoryTree x, int entry, int attribute, int... want) {
        for (int k = 0; k < want.length; k++) {
            due(what + ", valueAt(" + k + ")", x.valueAt(entry, attribute, k), want[k]);
        }
        due(what + ", behind the last", x.valueAt(entry, attribute, want.length), -1001);
    }

    static void dueFound(String what, DirectoryTree x, int entry, int scope, int... want) {
        due(what + ", count", x.count(entry, scope), want.length);
        for (int k = 0; k < want.length; k++) {
            due(what + ", found(" + k + ")", x.found(entry, scope, k), want[k]);
        }
        due(what + ", behind the last", x.found(entry, scope, want.length), -4);
    }

    /** 1 and 2 under the root by the names 7 and 3; 3 and 4 under 1 by 9 and 0; 5 under 2; 6 under 5. */
    static DirectoryTree family() {
        DirectoryTree x = new DirectoryTree();
        x.make(0, 7, 0);
        x.make(0, 3, 1);
        x.make(1, 9, 2);
        x.make(1, 0, 3);
        x.make(2, 5, 0);
        x.make(5, 5, 1);
        return x;
    }

    /** All 24 entries: 1 to 10 under the root, 11 to 20 under 1, 21 to 23 under 2. */
    static DirectoryTree full() {
        DirectoryTree x = new DirectoryTree();
        for (int entry = 1; entry < 24; entry++) {
            due("filling up", x.make((entry - 1) / 10, (entry - 1) % 10, entry % 4), entry);
        }
        return x;
    }

    /** All 24 entries, each under the one before it. */
    static DirectoryTree chain() {
        DirectoryTree x = new DirectoryTree();
        for (int entry = 1; entry < 24; entry++) {
            due("making a chain", x.make(entry - 1, 9 - entry % 10, 0), entry);
        }
        return x;
    }
}
