import java.util.ArrayList;
import java.util.HashMap;
import java.util.List;
import java.util.Map;

/** The boundary cases that the document names under 'What it is' and 'Terms', a test for each sentence. */
public final class TermsBoundariesTest extends Checks {
    /** Every word, as the text of its letters, by its number. */
    private static final Map<Integer, String> WORDS = allWords();

    public static void main(String[] args) {
        sentence("an object is used for at most 512 calls", TermsBoundariesTest::all512Calls);
        entriesAndNames();
        valuesAndWords();
        filters();
        searches();
        end();
    }

    private static void entriesAndNames() {
        sentence("there are at most 24 entries, numbered 0 to 23", TermsBoundariesTest::atMost24Entries);
        sentence("the root is always there, with the number 0", TermsBoundariesTest::rootIsAlwaysThere);
        sentence("a name from 0 to 9", TermsBoundariesTest::nameFrom0To9);
        sentence("entries with one parent have different names", TermsBoundariesTest::differentNames);
        sentence("below: its parent, or its parent is below that one", TermsBoundariesTest::below);
        sentence("every entry has a class, 0 to 3; the root has class 0", TermsBoundariesTest::classes);
        sentence("an entry comes before all below it", TermsBoundariesTest::beforeAllBelow);
        sentence("the one with the lesser name comes before the other one", TermsBoundariesTest::lesserNameFirst);
        sentence("with all below it, before the other one and all below that", TermsBoundariesTest::withAllBelow);
    }

    private static void valuesAndWords() {
        sentence("there are six attributes, 0 to 5", TermsBoundariesTest::sixAttributes);
        sentence("for each attribute a set of at most 4 values", TermsBoundariesTest::atMost4Values);
        sentence("values of 4 and 5 are numbers from -999 to 999", TermsBoundariesTest::numbers);
        sentence("words of 0 to 3 letters; other numbers are no words", TermsBoundariesTest::words);
        sentence("a letter being 1 to 5", TermsBoundariesTest::letters);
        sentence("words are compared letter by letter", TermsBoundariesTest::wordsCompared);
        sentence("one that is the beginning of another one is less", TermsBoundariesTest::beginningIsLess);
        sentence("the number from 0 to 63 that has the digit a for a", TermsBoundariesTest::allowedDigits);
        sentence("at first 63", TermsBoundariesTest::allowedAtFirst);
        sentence("values only for attributes that its class allows", TermsBoundariesTest::valuesOnlyForAllowed);
    }

    private static void filters() {
        sentence("a stack of at most 6 filters", TermsBoundariesTest::atMost6Filters);
        sentence("by at most 20 tokens", TermsBoundariesTest::atMost20Tokens);
        sentence("with F and G what is taken off (G the top)", TermsBoundariesTest::topIsTakenOff);
        sentence("PRESENT: undefined if the class does not allow a", TermsBoundariesTest::presentUndefined);
        sentence("PRESENT: else true if the entry has a value for a", TermsBoundariesTest::presentTrue);
        sentence("EQUAL: undefined if its class does not allow a", TermsBoundariesTest::equalNotAllowed);
        sentence("EQUAL: undefined if v can be no value of a", TermsBoundariesTest::equalNoValue);
        sentence("EQUAL: else true if it has the value v", TermsBoundariesTest::equalTrue);
        sentence("ATLEAST: undefined in the same cases", TermsBoundariesTest::atLeastUndefined);
        sentence("ATLEAST: else true if it has a value that is v or greater", TermsBoundariesTest::atLeastTrue);
        sentence("BEGINS: undefined in the same cases", TermsBoundariesTest::beginsUndefined);
        sentence("BEGINS: and if a is 4 or 5", TermsBoundariesTest::beginsOfNumbers);
        sentence("BEGINS: else true if a value begins with the word v", TermsBoundariesTest::beginsTrue);
        sentence("every word begins with itself and with the empty one", TermsBoundariesTest::beginsWithItself);
        sentence("CONTAINS: undefined in the same cases as BEGINS", TermsBoundariesTest::containsUndefined);
        sentence("CONTAINS: directly one behind the other, in their order", TermsBoundariesTest::containsTrue);
        sentence("every word contains the empty one", TermsBoundariesTest::containsEmpty);
        sentence("NOT: true, false, else undefined", TermsBoundariesTest::not);
        sentence("AND: false if F or G is false; true if both are true", () -> joined(AND, AND_OF));
        sentence("OR: true if F or G is true; false if both are false", () -> joined(OR, OR_OF));
        sentence("PRESENT to CONTAINS are false where nothing else is said", TermsBoundariesTest::falseElse);
    }

    private static void searches() {
        sentence("scope 0: the entry itself", TermsBoundariesTest::scopeItself);
        sentence("scope 1: those whose parent it is", TermsBoundariesTest::scopeChildren);
        sentence("scope 2: it and all below it", TermsBoundariesTest::scopeWithBelow);
        sentence("scope 3: all below it", TermsBoundariesTest::scopeBelow);
    }

    private static Map<Integer, String> allWords() {
        Map<Integer, String> words = new HashMap<>();
        words.put(word(), "");
        for (int a = 1; a <= 5; a++) {
            words.put(word(a), "" + a);
            for (int b = 1; b <= 5; b++) {
                words.put(word(a, b), "" + a + b);
                for (int c = 1; c <= 5; c++) {
                    words.put(word(a, b, c), "" + a + b + c);
                }
            }
        }
        return words;
    }

    private static void all512Calls() {
        DirectoryTree x = new DirectoryTree();
        for (int call = 1; call < 512; call += 2) {
            due("make, call " + call, x.make(0, call % 10, call % 4), 1);
            due("remove, call " + (call + 1), x.remove(1), 1);
        }
        DirectoryTree y = new DirectoryTree();
        for (int call = 1; call < 512; call++) {
            due("token, call " + call, y.token(PRESENT, 0, 0), call <= 6 ? call : -4);
        }
        due("clear, call 512", y.clear(), 6);
    }

    private static void atMost24Entries() {
        DirectoryTree x = full();
        due("24 with the root", x.entries(), 24);
        for (int parent = 2; parent < 24; parent++) {
            due("a 25th under " + parent, x.make(parent, 9, 0), -5);
        }
        due("still 24", x.entries(), 24);
        due("no number 24", x.child(24, 0), -1);
        due("nor -1", x.child(-1, 0), -1);
    }

    private static void rootIsAlwaysThere() {
        DirectoryTree x = full();
        for (int entry = 1; entry <= 10; entry++) {
            due("all others go", x.remove(entry), entry == 1 ? 11 : entry == 2 ? 4 : 1);
        }
        dueOrder("the root is left", x, 0);
        due("it does not go", x.remove(0), -2);
        dueOrder("it is left", x, 0);
        due("its number goes to no other one", x.make(0, 0, 0), 1);
    }

    private static void nameFrom0To9() {
        DirectoryTree x = new DirectoryTree();
        for (int name = 0; name <= 9; name++) {
            due("made by name " + name, x.make(0, name, 0), name + 1);
            due("found by name " + name, x.child(0, name), name + 1);
        }
        for (int name : outside(0, 9)) {
            due("not made by name " + name, x.make(1, name, 0), -2);
            due("not moved to name " + name, x.move(2, 1, name), -3);
            due("not found by name " + name, x.child(0, name), -2);
        }
        due("moved to name 0", x.move(2, 1, 0), 1);
        due("moved to name 9", x.move(3, 1, 9), 1);
    }

    private static void differentNames() {
        DirectoryTree x = full();
        x.remove(23);
        for (int name = 0; name <= 9; name++) {
            due("made twice by name " + name, x.make(0, name, 0), -3);
            due("moved to name " + name, x.move(22, 0, name), -4);
            due("the first one has it", x.child(0, name), name + 1);
        }
        due("the same name under another parent", x.make(3, 0, 0), 23);
    }

    private static void below() {
        DirectoryTree x = chain();
        putTrue(x);
        for (int entry = 0; entry < 24; entry++) {
            due("below " + entry, x.count(entry, 3), 23 - entry);
        }
        due("the first one under the last", x.move(1, 23, 0), -2);
        due("all are below the root's child", x.remove(1), 23);
    }

    private static void classes() {
        for (int kind = 0; kind <= 3; kind++) {
            DirectoryTree x = new DirectoryTree();
            for (int made = 0; made <= 3; made++) {
                due("class " + made, x.make(0, made, made), made + 1);
            }
            x.token(PRESENT, 0, 0);
            x.allow(kind, 62);
            due("the root's class is 0", x.test(0), kind == 0 ? 2 : 0);
            for (int made = 0; made <= 3; made++) {
                due("class " + made + " of " + kind, x.test(made + 1), made == kind ? 2 : 0);
            }
        }
    }

    private static void beforeAllBelow() {
        DirectoryTree x = chain();
        for (int k = 0; k < 24; k++) {
            due("the chain at " + k, x.entryAt(k), k);
        }
        DirectoryTree y = new DirectoryTree();
        y.make(0, 0, 0);
        y.make(0, 1, 0);
        y.move(1, 2, 0);
        dueOrder("a lesser number below a greater one", y, 0, 2, 1);
    }

    private static void lesserNameFirst() {
        DirectoryTree x = new DirectoryTree();
        for (int name = 9; name >= 0; name--) {
            x.make(0, name, 0);
        }
        dueOrder("the last made comes first", x, 0, 10, 9, 8, 7, 6, 5, 4, 3, 2, 1);
    }

    private static void withAllBelow() {
        DirectoryTree x = new DirectoryTree();
        x.make(0, 5, 0);
        x.make(0, 4, 0);
        x.make(1, 0, 0);
        x.make(2, 9, 0);
        x.make(4, 9, 0);
        x.make(3, 0, 0);
        dueOrder("greater names below the lesser one", x, 0, 2, 4, 5, 1, 3, 6);
    }

    private static void sixAttributes() {
        DirectoryTree x = new DirectoryTree();
        for (int attribute = 0; attribute <= 5; attribute++) {
            due("nothing different yet", x.different(attribute), 0);
            due("put " + attribute, x.put(0, attribute, attribute), 1);
            dueValues("a set of its own", x, 0, attribute, attribute);
        }
        for (int attribute : outside(0, 5)) {
            due("put " + attribute, x.put(0, attribute, 0), -2);
            due("drop " + attribute, x.drop(0, attribute, 0), -2);
            due("valueAt " + attribute, x.valueAt(0, attribute, 0), -1001);
            due("token " + attribute, x.token(PRESENT, attribute, 0), -1);
            due("different " + attribute, x.different(attribute), -2);
        }
    }

    private static void atMost4Values() {
        DirectoryTree x = full();
        for (int entry : new int[] {0, 23}) {
            for (int attribute = 0; attribute <= 5; attribute++) {
                for (int v = 1; v <= 4; v++) {
                    due("value " + v, x.put(entry, attribute, v), v);
                }
                due("a fifth", x.put(entry, attribute, 5), -5);
                dueValues("four", x, entry, attribute, 1, 2, 3, 4);
            }
        }
    }

    private static void numbers() {
        for (int attribute = 4; attribute <= 5; attribute++) {
            DirectoryTree x = new DirectoryTree();
            due("the least", x.put(0, attribute, -999), 1);
            due("the greatest", x.put(0, attribute, 999), 2);
            due("what is no word", x.put(0, attribute, 6), 3);
            due("zero", x.put(0, attribute, 0), 4);
            dueValues("rising", x, 0, attribute, -999, 0, 6, 999);
            for (int v : outside(-999, 999)) {
                due("number " + v, x.put(0, attribute, v), -2);
                due("filter " + v, alone(x, 0, EQUAL, attribute, v), 2);
            }
        }
    }

    private static void words() {
        for (int v = -20; v < 6 * 6 * 6 * 6 + 20; v++) {
            DirectoryTree x = new DirectoryTree();
            for (int attribute = 0; attribute <= 3; attribute++) {
                boolean isWord = WORDS.containsKey(v);
                due("put " + v, x.put(0, attribute, v), isWord ? 1 : -2);
                due("filter " + v, alone(x, 0, EQUAL, attribute, v), isWord ? 1 : 2);
            }
        }
        DirectoryTree x = new DirectoryTree();
        for (int v : outside(0, 215)) {
            due("put " + v, x.put(0, 0, v), -2);
        }
    }

    private static void letters() {
        for (int first = 0; first <= 6; first++) {
            for (int second = 0; second <= 6; second++) {
                for (int third = 0; third <= 6; third++) {
                    boolean isTooGreat = first > 5 || second > 5 || third > 5;
                    boolean hasGap = first == 0 && second + third > 0 || second == 0 && third > 0;
                    DirectoryTree x = new DirectoryTree();
                    due("letters " + first + second + third,
                        x.put(0, 3, word(first, second, third)), isTooGreat || hasGap ? -2 : 1);
                }
            }
        }
    }

    private static void wordsCompared() {
        for (int v : WORDS.keySet()) {
            for (int w : WORDS.keySet()) {
                if (WORDS.get(v).compareTo(WORDS.get(w)) < 0) {
                    DirectoryTree x = new DirectoryTree();
                    putValues(x, 0, 0, v, w);
                    putValues(x, 0, 3, w, v);
                    dueValues("the lesser put first", x, 0, 0, v, w);
                    dueValues("the greater put first", x, 0, 3, v, w);
                }
            }
        }
    }

    private static void beginningIsLess() {
        DirectoryTree x = new DirectoryTree();
        putValues(x, 0, 1, word(5, 5, 5), word(5, 5), word(5), word());
        dueValues("the shorter first", x, 0, 1, word(), word(5), word(5, 5), word(5, 5, 5));
        due("the longer one is at least itself", alone(x, 0, ATLEAST, 1, word(5, 5, 5)), 1);
        x.drop(0, 1, word(5, 5, 5));
        due("the beginning is not at least it", alone(x, 0, ATLEAST, 1, word(5, 5, 5)), 0);
    }

    private static void allowedDigits() {
        for (int allowed = 0; allowed <= 63; allowed++) {
            DirectoryTree x = new DirectoryTree();
            x.make(0, 0, 3);
            due("set to " + allowed, x.allow(3, allowed), 63);
            for (int attribute = 0, rest = allowed; attribute <= 5; attribute++, rest /= 2) {
                due(allowed + " of " + attribute, x.put(1, attribute, 0), rest % 2 == 1 ? 1 : -3);
            }
            due("what was set", x.allow(3, 63), allowed);
        }
    }

    private static void allowedAtFirst() {
        DirectoryTree x = new DirectoryTree();
        for (int kind = 0; kind <= 3; kind++) {
            due("class " + kind, x.allow(kind, 0), 63);
        }
    }

    private static void valuesOnlyForAllowed() {
        DirectoryTree x = family();
        x.allow(1, 0);
        for (int attribute = 0; attribute <= 5; attribute++) {
            due("put of none", x.put(2, attribute, 0), -3);
            dueValues("none", x, 2, attribute);
            due("put of all", x.put(1, attribute, 0), 1);
            due("it is to stay allowed", x.allow(0, 63 - (1 << attribute)), -3);
        }
    }

    private static void atMost6Filters() {
        DirectoryTree x = new DirectoryTree();
        for (int filters = 1; filters <= 6; filters++) {
            due("filter " + filters, x.token(PRESENT, 0, 0), filters);
        }
        due("a seventh", x.token(PRESENT, 0, 0), -4);
        due("six", x.clear(), 6);
    }

    private static void atMost20Tokens() {
        DirectoryTree x = new DirectoryTree();
        due("token 1", x.token(PRESENT, 0, 0), 1);
        for (int tokens = 2; tokens <= 20; tokens++) {
            due("token " + tokens, x.token(NOT, 0, 0), 1);
        }
        due("a 21st", x.token(NOT, 0, 0), -2);
        due("19 times NOT of false", x.test(0), 1);
    }

    private static void topIsTakenOff() {
        for (int[] stack : new int[][] {{2, 1, 0, 2, 1, 0}, {0, 1, 2, 0, 1, 2}, {1, 2, 0, 0, 2, 1}}) {
            DirectoryTree x = new DirectoryTree();
            x.put(0, 4, 1);
            for (int truth : stack) {
                putConstant(x, truth);
            }
            int want = stack[5];
            due("the top of six", x.test(0), want);
            for (int at = 4; at >= 0; at--) {
                boolean isAnd = at % 2 == 0;
                due("one filter less", x.token(isAnd ? AND : OR, 0, 0), at + 1);
                want = isAnd ? AND_OF[stack[at]][want] : OR_OF[stack[at]][want];
                due("with the one at " + at, x.test(0), want);
            }
        }
    }

    private static DirectoryTree without(int attribute) {
        DirectoryTree x = new DirectoryTree();
        x.make(0, 0, 2);
        x.allow(0, 63 - (1 << attribute));
        return x;
    }

    /** The tokens of a kind for an attribute that the root's class does not allow, but that of 1 does. */
    private static void undefinedIfNotAllowed(int kind, int lastAttribute) {
        for (int attribute = 0; attribute <= lastAttribute; attribute++) {
            DirectoryTree x = without(attribute);
            due("not allowed " + attribute, alone(x, 0, kind, attribute, 1), 2);
            due("allowed elsewhere " + attribute, alone(x, 1, kind, attribute, 1), 0);
            for (int other = 0; other <= lastAttribute; other++) {
                due("others are allowed", alone(x, 0, kind, other, 1), other == attribute ? 2 : 0);
            }
            due("allow again", x.allow(0, 63), 63 - (1 << attribute));
            due("allowed again", alone(x, 0, kind, attribute, 1), 0);
        }
    }

    /** The tokens of a kind for numbers that can be no value, where there are values and where there are none. */
    private static void undefinedIfNoValue(int kind, int lastAttribute) {
        for (int attribute = 0; attribute <= lastAttribute; attribute++) {
            DirectoryTree x = new DirectoryTree();
            x.make(0, 0, 0);
            x.put(0, attribute, 1);
            int[] impossible = attribute <= 3
                ? new int[] {-1, 6, 12, 36, 37, 42, 72, 210, 216, 217, 259, LEAST, GREATEST}
                : outside(-999, 999);
            for (int v : impossible) {
                due("no value " + v + " of " + attribute, alone(x, 0, kind, attribute, v), 2);
                due("no value " + v + ", no values", alone(x, 1, kind, attribute, v), 2);
            }
            int[] possible = attribute <= 3 ? new int[] {0, 5, 7, 35, 43, 215} : new int[] {-999, -1, 0, 6, 216, 999};
            for (int v : possible) {
                due("a value " + v + " of " + attribute, alone(x, 1, kind, attribute, v), 0);
            }
        }
    }

    private static void presentUndefined() {
        undefinedIfNotAllowed(PRESENT, 5);
    }

    private static void presentTrue() {
        for (int attribute = 0; attribute <= 5; attribute++) {
            DirectoryTree x = new DirectoryTree();
            due("none " + attribute, alone(x, 0, PRESENT, attribute, 0), 0);
            x.put(0, attribute, 0);
            for (int v : new int[] {0, 6, 1000, LEAST, GREATEST}) {
                due("v is nothing to it: " + v, alone(x, 0, PRESENT, attribute, v), 1);
            }
            x.drop(0, attribute, 0);
            due("no more " + attribute, alone(x, 0, PRESENT, attribute, 0), 0);
        }
    }

    private static void equalNotAllowed() {
        undefinedIfNotAllowed(EQUAL, 5);
    }

    private static void equalNoValue() {
        undefinedIfNoValue(EQUAL, 5);
    }

    private static void equalTrue() {
        for (int attribute = 0; attribute <= 5; attribute++) {
            DirectoryTree x = new DirectoryTree();
            putValues(x, 0, attribute, 0, 5, 43, 215);
            for (int v : new int[] {0, 5, 43, 215}) {
                due("has " + v, alone(x, 0, EQUAL, attribute, v), 1);
            }
            for (int v : new int[] {1, 4, 7, 35, 44, 214}) {
                due("has not " + v, alone(x, 0, EQUAL, attribute, v), 0);
            }
        }
    }

    private static void atLeastUndefined() {
        undefinedIfNotAllowed(ATLEAST, 5);
        undefinedIfNoValue(ATLEAST, 5);
    }

    private static void atLeastTrue() {
        for (int attribute = 4; attribute <= 5; attribute++) {
            DirectoryTree x = new DirectoryTree();
            due("no value is at least the least", alone(x, 0, ATLEAST, attribute, -999), 0);
            x.put(0, attribute, -999);
            due("the least itself", alone(x, 0, ATLEAST, attribute, -999), 1);
            due("one more", alone(x, 0, ATLEAST, attribute, -998), 0);
            x.put(0, attribute, 0);
            due("zero itself", alone(x, 0, ATLEAST, attribute, 0), 1);
            due("one above zero", alone(x, 0, ATLEAST, attribute, 1), 0);
            x.put(0, attribute, 999);
            due("the greatest itself", alone(x, 0, ATLEAST, attribute, 999), 1);
            due("between", alone(x, 0, ATLEAST, attribute, 998), 1);
        }
        forAllWords(ATLEAST);
    }

    private static boolean isTrueOf(int kind, String value, String v) {
        switch (kind) {
            case ATLEAST: return value.compareTo(v) >= 0;
            case BEGINS: return value.startsWith(v);
            default: return value.contains(v);
        }
    }

    private static void forAllWords(int kind) {
        for (int value : WORDS.keySet()) {
            for (int v : WORDS.keySet()) {
                DirectoryTree x = new DirectoryTree();
                x.put(0, 2, value);
                int want = isTrueOf(kind, WORDS.get(value), WORDS.get(v)) ? 1 : 0;
                due("token " + kind + " of " + WORDS.get(v) + " for " + WORDS.get(value), alone(x, 0, kind, 2, v), want);
            }
        }
    }

    private static void beginsUndefined() {
        undefinedIfNotAllowed(BEGINS, 3);
        undefinedIfNoValue(BEGINS, 3);
    }

    private static void undefinedForNumbers(int kind) {
        for (int attribute = 4; attribute <= 5; attribute++) {
            DirectoryTree x = new DirectoryTree();
            due("no values", alone(x, 0, kind, attribute, 0), 2);
            x.put(0, attribute, 1);
            for (int v : new int[] {-999, 0, 1, 7, 999, 1000}) {
                due("of number " + v, alone(x, 0, kind, attribute, v), 2);
            }
        }
        DirectoryTree x = new DirectoryTree();
        x.put(0, 3, 1);
        due("3 is no number's", alone(x, 0, kind, 3, 1), 1);
    }

    private static void beginsOfNumbers() {
        undefinedForNumbers(BEGINS);
    }

    private static void beginsTrue() {
        forAllWords(BEGINS);
    }

    private static void beginsWithItself() {
        for (int value : WORDS.keySet()) {
            DirectoryTree x = new DirectoryTree();
            x.put(0, 1, value);
            due("itself " + WORDS.get(value), alone(x, 0, BEGINS, 1, value), 1);
            due("the empty one", alone(x, 0, BEGINS, 1, word()), 1);
        }
    }

    private static void containsUndefined() {
        undefinedIfNotAllowed(CONTAINS, 3);
        undefinedIfNoValue(CONTAINS, 3);
        undefinedForNumbers(CONTAINS);
    }

    private static void containsTrue() {
        forAllWords(CONTAINS);
        DirectoryTree x = new DirectoryTree();
        putValues(x, 0, 0, word(1, 2), word(3, 4));
        due("not across two values", alone(x, 0, CONTAINS, 0, word(2, 3)), 0);
        due("in the last value", alone(x, 0, CONTAINS, 0, word(4)), 1);
    }

    private static void containsEmpty() {
        for (int value : WORDS.keySet()) {
            DirectoryTree x = new DirectoryTree();
            x.put(0, 0, value);
            due("the empty one in " + WORDS.get(value), alone(x, 0, CONTAINS, 0, word()), 1);
        }
    }

    private static void not() {
        for (int f = 0; f <= 2; f++) {
            DirectoryTree x = new DirectoryTree();
            x.put(0, 4, 1);
            putConstant(x, f);
            x.token(NOT, 0, 0);
            due("NOT " + f, x.test(0), NOT_OF[f]);
            x.token(NOT, 0, 0);
            due("NOT NOT " + f, x.test(0), f);
        }
    }

    private static void joined(int kind, int[][] table) {
        for (int f = 0; f <= 2; f++) {
            for (int g = 0; g <= 2; g++) {
                DirectoryTree x = new DirectoryTree();
                x.put(0, 4, 1);
                putConstant(x, f);
                putConstant(x, g);
                x.token(kind, 0, 0);
                due(f + " and " + g, x.test(0), table[f][g]);
            }
        }
    }

    private static void falseElse() {
        for (int kind = PRESENT; kind <= CONTAINS; kind++) {
            for (int attribute = 0; attribute <= (kind < BEGINS ? 5 : 3); attribute++) {
                DirectoryTree x = new DirectoryTree();
                due("token " + kind + " without values", alone(x, 0, kind, attribute, 0), 0);
                x.put(0, attribute == 0 ? 1 : 0, 0);
                due("token " + kind + " with another attribute's", alone(x, 0, kind, attribute, 0), 0);
            }
        }
    }

    private static void scopeItself() {
        DirectoryTree x = full();
        putTrue(x);
        for (int entry = 0; entry < 24; entry++) {
            dueFound("itself " + entry, x, entry, 0, entry);
        }
    }

    private static int[] numbersFrom(int first, int last) {
        List<Integer> numbers = new ArrayList<>();
        for (int n = first; n <= last; n++) {
            numbers.add(n);
        }
        return numbers.stream().mapToInt(n -> n).toArray();
    }

    private static void scopeChildren() {
        DirectoryTree x = full();
        putTrue(x);
        dueFound("the root's, as many as names", x, 0, 1, numbersFrom(1, 10));
        dueFound("of 1", x, 1, 1, numbersFrom(11, 20));
        dueFound("of 2", x, 2, 1, 21, 22, 23);
        dueFound("of a leaf", x, 23, 1);
        DirectoryTree y = chain();
        putTrue(y);
        for (int entry = 0; entry < 23; entry++) {
            dueFound("of " + entry, y, entry, 1, entry + 1);
        }
        dueFound("of the last", y, 23, 1);
    }

    private static void scopeWithBelow() {
        DirectoryTree x = chain();
        putTrue(x);
        for (int entry : new int[] {0, 1, 12, 22, 23}) {
            dueFound("with " + entry, x, entry, 2, numbersFrom(entry, 23));
        }
        DirectoryTree y = new DirectoryTree();
        putTrue(y);
        dueFound("the root alone", y, 0, 2, 0);
    }

    private static void scopeBelow() {
        DirectoryTree x = chain();
        putTrue(x);
        for (int entry : new int[] {0, 1, 12, 22, 23}) {
            dueFound("without " + entry, x, entry, 3, numbersFrom(entry + 1, 23));
        }
        DirectoryTree y = new DirectoryTree();
        putTrue(y);
        dueFound("the root alone", y, 0, 3);
    }
}
