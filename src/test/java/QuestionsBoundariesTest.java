/** The boundary cases of the promises 10 to 17, which ask a directory, a test for each sentence. */
public final class QuestionsBoundariesTest extends Checks {
    public static void main(String[] args) {
        entriesAndTheirPlaces();
        values();
        filters();
        end();
    }

    private static void entriesAndTheirPlaces() {
        sentence("entries: how many entries there are", QuestionsBoundariesTest::entriesHowMany);
        sentence("entryAt: the entry with exactly k before it", QuestionsBoundariesTest::entryAtFirstAndLast);
        sentence("entryAt: -2 if there is none", QuestionsBoundariesTest::entryAtNone);
        sentence("child: the entry with a parent and a name", QuestionsBoundariesTest::childEachName);
        sentence("child: entry (the parent): -1", QuestionsBoundariesTest::childParent);
        sentence("child: there is none: -2", QuestionsBoundariesTest::childNone);
    }

    private static void values() {
        sentence("valueAt: 0 for the first", QuestionsBoundariesTest::valueAtEachPlace);
        sentence("valueAt: in rising order (words as they are compared)", QuestionsBoundariesTest::valueAtRising);
        sentence("valueAt: entry: -1000", QuestionsBoundariesTest::valueAtEntry);
        sentence("valueAt: attribute is not 0 to 5: -1001", QuestionsBoundariesTest::valueAtAttribute);
        sentence("valueAt: there is none: -1001", QuestionsBoundariesTest::valueAtNone);
        sentence("different: how many different values", QuestionsBoundariesTest::differentHowMany);
        sentence("different: all entries together", QuestionsBoundariesTest::differentAllEntries);
        sentence("different: attribute is not 0 to 5: -2", QuestionsBoundariesTest::differentAttribute);
    }

    private static void filters() {
        sentence("test: 1 true, 0 false, 2 undefined", QuestionsBoundariesTest::testAnswers);
        sentence("test: the top of the stack", QuestionsBoundariesTest::testTop);
        sentence("test: entry: -1", QuestionsBoundariesTest::testEntry);
        sentence("test: the stack is empty: -2", QuestionsBoundariesTest::testEmpty);
        sentence("count: for how many the top is true", QuestionsBoundariesTest::countTrueAlone);
        sentence("count: none and all", QuestionsBoundariesTest::countNoneAndAll);
        sentence("count: entry: -1", QuestionsBoundariesTest::countEntry);
        sentence("count: scope is not 0 to 3: -2", QuestionsBoundariesTest::countScope);
        sentence("count: the stack is empty: -3", QuestionsBoundariesTest::countEmpty);
        sentence("found: the k-th (0 for the first), in the order", QuestionsBoundariesTest::foundInOrder);
        sentence("found: entry: -1", QuestionsBoundariesTest::foundEntry);
        sentence("found: scope is not 0 to 3: -2", QuestionsBoundariesTest::foundScope);
        sentence("found: the stack is empty: -3", QuestionsBoundariesTest::foundEmpty);
        sentence("found: there is none: -4", QuestionsBoundariesTest::foundNone);
    }

    private static void entriesHowMany() {
        DirectoryTree x = new DirectoryTree();
        due("the fewest", x.entries(), 1);
        for (int entry = 1; entry <= 23; entry++) {
            x.make(entry - 1, 0, 0);
            due("with " + entry, x.entries(), entry + 1);
        }
        x.make(23, 0, 0);
        due("the most", x.entries(), 24);
        x.move(23, 0, 9);
        due("after a move", x.entries(), 24);
        x.remove(2);
        due("after a removal of 21", x.entries(), 3);
        x.remove(1);
        due("1 went, 23 had moved away", x.entries(), 2);
        x.make(23, 0, 0);
        due("with a number again that was free", x.entries(), 3);
    }

    private static void entryAtFirstAndLast() {
        due("the root alone", new DirectoryTree().entryAt(0), 0);
        DirectoryTree x = full();
        due("the first of 24", x.entryAt(0), 0);
        due("the last of 24", x.entryAt(23), 10);
        x.move(5, 10, 9);
        due("another last one", x.entryAt(23), 5);
        due("the one before it", x.entryAt(22), 10);
        due("the root stays the first", x.entryAt(0), 0);
    }

    private static void entryAtNone() {
        DirectoryTree x = new DirectoryTree();
        for (int entries = 1; entries <= 24; entries++) {
            due("behind the last of " + entries, x.entryAt(entries), -2);
            due("at 24 of " + entries, x.entryAt(24), -2);
            x.make(entries - 1, 0, 0);
        }
        for (int k : outside(0, 23)) {
            due("k " + k, x.entryAt(k), -2);
        }
        x.remove(12);
        due("behind the last that is left", x.entryAt(12), -2);
        due("where the last was", x.entryAt(23), -2);
        due("the last that is left", x.entryAt(11), 11);
    }

    private static void childEachName() {
        DirectoryTree x = full();
        for (int name = 0; name <= 9; name++) {
            due("of the root", x.child(0, name), name + 1);
            due("of 1", x.child(1, name), name + 11);
        }
        due("the last", x.child(2, 2), 23);
        x.move(23, 22, 9);
        due("after a move", x.child(22, 9), 23);
    }

    private static void childParent() {
        DirectoryTree x = family();
        for (int parent : noEntries(6)) {
            due("parent " + parent, x.child(parent, 5), -1);
        }
        x.remove(5);
        due("gone", x.child(5, 5), -1);
        due("gone from below", x.child(6, 5), -1);
        due("no parent has the root", x.child(-1, 0), -1);
    }

    private static void childNone() {
        DirectoryTree x = family();
        for (int name : outside(0, 9)) {
            due("name " + name, x.child(1, name), -2);
        }
        for (int name = 1; name <= 8; name++) {
            due("free name " + name, x.child(1, name), -2);
        }
        for (int name = 0; name <= 9; name++) {
            due("of a leaf", x.child(6, name), -2);
        }
        due("one further below is none", x.child(0, 5), -2);
        due("the root is not its own", x.child(0, 0), -2);
        x.remove(4);
        due("gone", x.child(1, 0), -2);
    }

    private static void valueAtEachPlace() {
        DirectoryTree x = full();
        for (int attribute = 0; attribute <= 5; attribute++) {
            putValues(x, 0, attribute, 4, 3, 2, 1);
            putValues(x, 23, attribute, 5);
        }
        for (int attribute = 0; attribute <= 5; attribute++) {
            dueValues("of the root", x, 0, attribute, 1, 2, 3, 4);
            dueValues("of the last", x, 23, attribute, 5);
        }
    }

    private static void valueAtRising() {
        DirectoryTree x = new DirectoryTree();
        putValues(x, 0, 0, word(2), word(1, 1, 1), word(1, 5), word());
        dueValues("a lesser number may be a greater word", x, 0, 0, word(), word(1, 1, 1), word(1, 5), word(2));
        putValues(x, 0, 3, word(5), word(1, 5, 5), word(5, 1), word(1, 5));
        dueValues("the last attribute of words", x, 0, 3, word(1, 5), word(1, 5, 5), word(5), word(5, 1));
        putValues(x, 0, 4, 2, 43, 11, 1);
        dueValues("the first attribute of numbers", x, 0, 4, 1, 2, 11, 43);
        putValues(x, 0, 5, 999, -1, 0, -999);
        dueValues("below zero", x, 0, 5, -999, -1, 0, 999);
    }

    private static void valueAtEntry() {
        DirectoryTree x = family();
        for (int entry : noEntries(6)) {
            due("entry " + entry, x.valueAt(entry, 0, 0), -1000);
        }
        x.put(6, 0, 0);
        x.remove(6);
        due("gone", x.valueAt(6, 0, 0), -1000);
        due("there, but without values", x.valueAt(5, 0, 0), -1001);
    }

    /** Every set of every entry is full: what is beside an attribute or a place would be answered. */
    private static DirectoryTree fullOfValues() {
        DirectoryTree x = new DirectoryTree();
        x.make(0, 0, 0);
        x.make(0, 1, 0);
        for (int entry = 0; entry <= 2; entry++) {
            for (int attribute = 0; attribute <= 5; attribute++) {
                putValues(x, entry, attribute, 1, 2, 3, 4);
            }
        }
        return x;
    }

    private static void valueAtAttribute() {
        DirectoryTree x = fullOfValues();
        for (int attribute : outside(0, 5)) {
            for (int entry = 0; entry <= 2; entry++) {
                due("attribute " + attribute, x.valueAt(entry, attribute, 0), -1001);
                due("attribute " + attribute + ", no place", x.valueAt(entry, attribute, -1), -1001);
            }
        }
        due("the least", x.valueAt(1, 0, 0), 1);
        due("the greatest", x.valueAt(1, 5, 0), 1);
    }

    private static void valueAtNone() {
        DirectoryTree x = fullOfValues();
        for (int attribute = 0; attribute <= 5; attribute++) {
            for (int k : outside(0, 3)) {
                due("place " + k, x.valueAt(1, attribute, k), -1001);
            }
            x.drop(1, attribute, 4);
            due("the place of the dropped one", x.valueAt(1, attribute, 3), -1001);
            putValues(x, 1, attribute, 4);
        }
        DirectoryTree y = new DirectoryTree();
        due("an empty set", y.valueAt(0, 0, 0), -1001);
        due("before an empty set", y.valueAt(0, 0, -1), -1001);
    }

    private static void differentHowMany() {
        DirectoryTree x = full();
        due("none", x.different(0), 0);
        for (int entry = 0; entry <= 23; entry++) {
            x.put(entry, 0, word());
            x.put(entry, 4, 0);
            x.put(entry, 5, entry % 2 == 0 ? -7 : 7);
        }
        due("the empty word of all", x.different(0), 1);
        due("the number 0 of all", x.different(4), 1);
        due("below and above zero", x.different(5), 2);
        x.remove(1);
        due("a removal leaves one of each", x.different(5), 2);
        due("another attribute", x.different(1), 0);
    }

    private static void differentAllEntries() {
        DirectoryTree x = full();
        for (int entry = 0; entry <= 23; entry++) {
            putValues(x, entry, 5, 4 * entry - 40, 4 * entry - 39, 4 * entry - 38, 4 * entry - 37);
        }
        due("as many as can be", x.different(5), 96);
        x.drop(0, 5, -40);
        due("without the root's first", x.different(5), 95);
        x.drop(23, 5, 55);
        due("without the last one's last", x.different(5), 94);
        x.remove(1);
        due("without eleven entries", x.different(5), 50);
    }

    private static void differentAttribute() {
        DirectoryTree x = fullOfValues();
        for (int attribute : outside(0, 5)) {
            due("attribute " + attribute, x.different(attribute), -2);
        }
        for (int attribute = 0; attribute <= 5; attribute++) {
            due("attribute " + attribute, x.different(attribute), 4);
        }
    }

    private static void testAnswers() {
        for (int truth = 0; truth <= 2; truth++) {
            DirectoryTree x = full();
            putValues(x, 0, 4, 1);
            putValues(x, 23, 4, 1);
            putConstant(x, truth);
            due("the root", x.test(0), truth);
            due("the last entry", x.test(23), truth);
            due("an entry without values", x.test(12), truth == 2 ? 2 : 0);
        }
    }

    private static void testTop() {
        DirectoryTree x = new DirectoryTree();
        x.put(0, 4, 1);
        for (int truth : new int[] {1, 2, 0, 1, 0, 2}) {
            putConstant(x, truth);
            due("the one put last", x.test(0), truth);
        }
        putConstant(x, 1);
        due("a seventh was refused", x.test(0), 2);
    }

    private static void testEntry() {
        DirectoryTree x = family();
        putTrue(x);
        for (int entry : noEntries(6)) {
            due("entry " + entry, x.test(entry), -1);
        }
        x.remove(6);
        due("gone", x.test(6), -1);
    }

    private static void testEmpty() {
        DirectoryTree x = family();
        for (int entry = 0; entry <= 6; entry++) {
            due("entry " + entry, x.test(entry), -2);
        }
        putTrue(x);
        due("one filter", x.test(0), 1);
        x.clear();
        due("after clear", x.test(0), -2);
        x.token(NOT, 0, 0);
        due("after a refused token", x.test(0), -2);
    }

    private static void countTrueAlone() {
        DirectoryTree x = family();
        x.allow(1, 62);
        putValues(x, 1, 0, 0);
        putValues(x, 3, 0, 0);
        x.token(PRESENT, 0, 0);
        due("true", x.count(0, 2), 2);
        x.token(NOT, 0, 0);
        due("false turned to true", x.count(0, 2), 3);
        due("undefined is neither", x.count(2, 0), 0);
        x.token(PRESENT, 0, 0);
        due("the top alone", x.count(0, 2), 2);
    }

    private static void countNoneAndAll() {
        DirectoryTree x = full();
        x.token(PRESENT, 0, 0);
        due("none of 24", x.count(0, 2), 0);
        x.token(NOT, 0, 0);
        due("all of 24", x.count(0, 2), 24);
        due("all of 23", x.count(0, 3), 23);
        due("all of ten", x.count(0, 1), 10);
        due("one", x.count(0, 0), 1);
        due("below a leaf", x.count(23, 3), 0);
        due("a leaf's children", x.count(23, 1), 0);
    }

    private static void countEntry() {
        DirectoryTree x = family();
        putTrue(x);
        for (int scope = 0; scope <= 3; scope++) {
            for (int entry : noEntries(6)) {
                due("entry " + entry, x.count(entry, scope), -1);
            }
        }
        x.remove(6);
        due("gone", x.count(6, 0), -1);
    }

    private static void countScope() {
        DirectoryTree x = family();
        putTrue(x);
        for (int scope : outside(0, 3)) {
            due("scope " + scope, x.count(0, scope), -2);
        }
        due("the least", x.count(0, 0), 1);
        due("the greatest", x.count(0, 3), 6);
    }

    private static void countEmpty() {
        DirectoryTree x = family();
        for (int scope = 0; scope <= 3; scope++) {
            due("new, scope " + scope, x.count(0, scope), -3);
        }
        putTrue(x);
        x.clear();
        due("after clear", x.count(0, 2), -3);
        due("of a leaf", x.count(6, 3), -3);
    }

    private static void foundInOrder() {
        DirectoryTree x = full();
        putTrue(x);
        int[] order = {0, 1, 11, 12, 13, 14, 15, 16, 17, 18, 19, 20, 2, 21, 22, 23, 3, 4, 5, 6, 7, 8, 9, 10};
        dueFound("all 24", x, 0, 2, order);
        dueFound("four of them", x, 2, 2, 2, 21, 22, 23);
        x.put(0, 0, 0);
        x.put(10, 0, 0);
        due("the first that is true", x.found(0, 2, 0), 1);
        due("the last that is true", x.found(0, 2, 21), 9);
        due("behind it", x.found(0, 2, 22), -4);
        x.move(23, 0, 9);
        due("a refused move changes no order", x.found(0, 2, 21), 9);
        x.remove(10);
        x.move(23, 0, 9);
        due("a move does", x.found(0, 2, 21), 23);
    }

    private static void foundEntry() {
        DirectoryTree x = family();
        putTrue(x);
        for (int entry : noEntries(6)) {
            due("entry " + entry, x.found(entry, 2, 0), -1);
        }
        x.remove(6);
        due("gone", x.found(6, 0, 0), -1);
    }

    private static void foundScope() {
        DirectoryTree x = family();
        putTrue(x);
        for (int scope : outside(0, 3)) {
            due("scope " + scope, x.found(0, scope, 0), -2);
        }
        due("the least", x.found(0, 0, 0), 0);
        due("the greatest", x.found(0, 3, 0), 2);
    }

    private static void foundEmpty() {
        DirectoryTree x = family();
        for (int scope = 0; scope <= 3; scope++) {
            due("new, scope " + scope, x.found(0, scope, 0), -3);
        }
        putTrue(x);
        x.clear();
        due("after clear", x.found(0, 2, 0), -3);
    }

    private static void foundNone() {
        DirectoryTree x = full();
        putTrue(x);
        for (int k : outside(0, 23)) {
            due("k " + k, x.found(0, 2, k), -4);
        }
        for (int scope = 0; scope <= 3; scope++) {
            due("behind the last, scope " + scope, x.found(0, scope, new int[] {1, 10, 24, 23}[scope]), -4);
            due("the last, scope " + scope, x.found(0, scope, new int[] {0, 9, 23, 22}[scope]), scope == 0 ? 0 : 10);
            due("before the first, scope " + scope, x.found(0, scope, -1), -4);
        }
        due("a leaf's children", x.found(23, 1, 0), -4);
        due("below a leaf", x.found(23, 3, 0), -4);
        x.token(PRESENT, 0, 0);
        due("nothing is true", x.found(0, 2, 0), -4);
        x.token(EQUAL, 4, 1000);
        due("all is undefined", x.found(0, 2, 0), -4);
    }
}
