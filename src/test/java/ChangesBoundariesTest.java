/** The boundary cases of the promises 1 to 9, which make and change a directory, a test for each sentence. */
public final class ChangesBoundariesTest extends Checks {
    public static void main(String[] args) {
        newObject();
        make();
        remove();
        move();
        put();
        drop();
        allow();
        token();
        clear();
        end();
    }

    private static void newObject() {
        sentence("1: only the root", ChangesBoundariesTest::newOnlyRoot);
        sentence("1: without values", ChangesBoundariesTest::newWithoutValues);
        sentence("1: every class allows all attributes", ChangesBoundariesTest::newAllowsAll);
        sentence("1: no filters", ChangesBoundariesTest::newWithoutFilters);
    }

    private static void make() {
        sentence("make: a new entry without values", ChangesBoundariesTest::makeWithoutValues);
        sentence("make: its number is the least that is free", ChangesBoundariesTest::makeLeastFree);
        sentence("make: entry (the parent): -1", ChangesBoundariesTest::makeParent);
        sentence("make: name is not 0 to 9: -2", ChangesBoundariesTest::makeName);
        sentence("make: the parent has an entry with this name: -3", ChangesBoundariesTest::makeNameTaken);
        sentence("make: kind is not 0 to 3: -4", ChangesBoundariesTest::makeKind);
        sentence("make: there are 24 entries: -5", ChangesBoundariesTest::makeFull);
    }

    private static void remove() {
        sentence("remove: takes an entry out with all below it", ChangesBoundariesTest::removeWithAllBelow);
        sentence("remove: entry: -1", ChangesBoundariesTest::removeEntry);
        sentence("remove: it is the root: -2", ChangesBoundariesTest::removeRoot);
        sentence("remove: else answers how many went", ChangesBoundariesTest::removeHowMany);
    }

    private static void move() {
        sentence("move: with all below it", ChangesBoundariesTest::moveWithAllBelow);
        sentence("move: under a parent (it may be its own)", ChangesBoundariesTest::moveUnderItsOwnParent);
        sentence("move: entry: -1", ChangesBoundariesTest::moveEntry);
        sentence("move: the parent is none: -1", ChangesBoundariesTest::moveParent);
        sentence("move: entry is the root: -2", ChangesBoundariesTest::moveRoot);
        sentence("move: the parent is the entry itself: -2", ChangesBoundariesTest::moveUnderItself);
        sentence("move: the parent is below it: -2", ChangesBoundariesTest::moveUnderOneBelow);
        sentence("move: name is not 0 to 9: -3", ChangesBoundariesTest::moveName);
        sentence("move: an entry other than this one has parent and name: -4", ChangesBoundariesTest::moveNameTaken);
        sentence("move: else answers 1", ChangesBoundariesTest::moveInFullTree);
    }

    private static void put() {
        sentence("put: entry: -1", ChangesBoundariesTest::putEntry);
        sentence("put: attribute is not 0 to 5: -2", ChangesBoundariesTest::putAttribute);
        sentence("put: v can be no value of it: -2", ChangesBoundariesTest::putNoValue);
        sentence("put: its class does not allow the attribute: -3", ChangesBoundariesTest::putNotAllowed);
        sentence("put: it has this value: -4", ChangesBoundariesTest::putTwice);
        sentence("put: it has 4 values for the attribute: -5", ChangesBoundariesTest::putFifth);
        sentence("put: else answers how many it has then", ChangesBoundariesTest::putHowMany);
    }

    private static void drop() {
        sentence("drop: entry: -1", ChangesBoundariesTest::dropEntry);
        sentence("drop: attribute is not 0 to 5: -2", ChangesBoundariesTest::dropAttribute);
        sentence("drop: the entry does not have this value for it: -3", ChangesBoundariesTest::dropNotThere);
        sentence("drop: else answers how many it has then", ChangesBoundariesTest::dropHowMany);
        sentence("drop: takes a value away", ChangesBoundariesTest::dropEachPlace);
    }

    private static void allow() {
        sentence("allow: kind is not 0 to 3: -2", ChangesBoundariesTest::allowKind);
        sentence("allow: allowed not 0 to 63: -2", ChangesBoundariesTest::allowSet);
        sentence("allow: an entry of this class has a value: -3", ChangesBoundariesTest::allowWithValues);
        sentence("allow: an attribute that would not be allowed", ChangesBoundariesTest::allowOtherAttributes);
        sentence("allow: else answers what it allowed", ChangesBoundariesTest::allowAnswers);
    }

    private static void token() {
        sentence("token: kind is not 0 to 7: -1", ChangesBoundariesTest::tokenKind);
        sentence("token: attribute is not 0 to 5 for PRESENT to CONTAINS: -1", ChangesBoundariesTest::tokenAttribute);
        sentence("token: for others attribute and v are not looked at", ChangesBoundariesTest::tokenNotLookedAt);
        sentence("token: 20 tokens were put from the beginning: -2", ChangesBoundariesTest::tokenLimitAtFirst);
        sentence("token: 20 tokens were put since clear: -2", ChangesBoundariesTest::tokenLimitSinceClear);
        sentence("token: refused ones were not put", ChangesBoundariesTest::tokenRefusedDoNotCount);
        sentence("token: the stack has fewer filters than it takes: -3", ChangesBoundariesTest::tokenTakesTooMany);
        sentence("token: it takes none and there are 6: -4", ChangesBoundariesTest::tokenSeventh);
        sentence("token: else answers how many filters there are then", ChangesBoundariesTest::tokenHowMany);
    }

    private static void clear() {
        sentence("clear: the stack becomes empty", ChangesBoundariesTest::clearEmpties);
        sentence("clear: 20 tokens can be put again", ChangesBoundariesTest::clearMakesRoom);
        sentence("clear: answers how many filters there were", ChangesBoundariesTest::clearHowMany);
    }

    private static void newOnlyRoot() {
        DirectoryTree x = new DirectoryTree();
        dueOrder("new", x, 0);
        for (int entry : noEntries(0)) {
            due("entry " + entry, x.child(entry, 0), -1);
        }
        for (int name = 0; name <= 9; name++) {
            due("child " + name, x.child(0, name), -2);
        }
    }

    private static void newWithoutValues() {
        DirectoryTree x = new DirectoryTree();
        for (int attribute = 0; attribute <= 5; attribute++) {
            due("valueAt " + attribute, x.valueAt(0, attribute, 0), -1001);
            due("drop " + attribute, x.drop(0, attribute, 0), -3);
            due("different " + attribute, x.different(attribute), 0);
        }
    }

    private static void newAllowsAll() {
        DirectoryTree x = new DirectoryTree();
        for (int kind = 0; kind <= 3; kind++) {
            int entry = x.make(0, kind, kind);
            for (int attribute = 0; attribute <= 5; attribute++) {
                due("class " + kind + ", attribute " + attribute, x.put(entry, attribute, 0), 1);
            }
            due("class " + kind, x.allow(kind, 63), 63);
        }
    }

    private static void newWithoutFilters() {
        DirectoryTree x = new DirectoryTree();
        due("test", x.test(0), -2);
        due("count", x.count(0, 2), -3);
        due("found", x.found(0, 2, 0), -3);
        due("NOT", x.token(NOT, 0, 0), -3);
        due("clear", x.clear(), 0);
    }

    private static void makeWithoutValues() {
        DirectoryTree x = full();
        for (int attribute = 0; attribute <= 5; attribute++) {
            putValues(x, 23, attribute, 1, 2, 3, 4);
        }
        x.remove(23);
        due("the number again", x.make(2, 2, 1), 23);
        for (int attribute = 0; attribute <= 5; attribute++) {
            dueValues("none of the last entry's", x, 23, attribute);
            due("a first one", x.put(23, attribute, 1), 1);
        }
    }

    private static void makeLeastFree() {
        DirectoryTree x = full();
        for (int entry : new int[] {23, 5, 17, 11}) {
            x.remove(entry);
        }
        for (int entry : new int[] {5, 11, 17, 23}) {
            due("the gaps from below", x.make(22, entry % 10, 0), entry);
        }
        due("no gap is left", x.make(22, 0, 0), -5);
        x.remove(1);
        due("all below leave gaps too", x.make(0, 0, 0), 1);
        due("the next gap", x.make(0, 4, 0), 12);
    }

    private static void makeParent() {
        DirectoryTree x = family();
        for (int parent : noEntries(6)) {
            due("parent " + parent, x.make(parent, 1, 0), -1);
        }
        x.remove(2);
        for (int gone : new int[] {2, 5, 6}) {
            due("gone " + gone, x.make(gone, 1, 0), -1);
        }
        due("the last that is there", x.make(4, 1, 0), 2);
    }

    private static void makeName() {
        DirectoryTree x = new DirectoryTree();
        for (int name : outside(0, 9)) {
            due("name " + name, x.make(0, name, 0), -2);
        }
        due("the least", x.make(0, 0, 0), 1);
        due("the greatest", x.make(0, 9, 0), 2);
        for (int name : outside(0, 9)) {
            due("name " + name + " beside 0 and 9", x.make(0, name, 0), -2);
        }
    }

    private static void makeNameTaken() {
        DirectoryTree x = family();
        due("of the root", x.make(0, 7, 0), -3);
        due("of another", x.make(1, 0, 0), -3);
        due("the greatest", x.make(1, 9, 0), -3);
        due("under another parent", x.make(2, 9, 0), 7);
        x.move(1, 0, 8);
        due("a name left by a move", x.make(0, 7, 0), 8);
        due("a name taken by a move", x.make(0, 8, 0), -3);
        x.remove(1);
        due("a name left by a removal", x.make(0, 8, 0), 1);
        DirectoryTree y = new DirectoryTree();
        due("the root itself has no name that counts", y.make(0, 0, 0), 1);
    }

    private static void makeKind() {
        DirectoryTree x = new DirectoryTree();
        for (int kind : outside(0, 3)) {
            due("class " + kind, x.make(0, 0, kind), -4);
        }
        due("the least", x.make(0, 0, 0), 1);
        due("the greatest", x.make(0, 1, 3), 2);
    }

    private static void makeFull() {
        DirectoryTree x = new DirectoryTree();
        for (int entry = 1; entry <= 22; entry++) {
            x.make(entry - 1, 0, 0);
        }
        due("with 23 entries", x.make(22, 0, 0), 23);
        due("with 24 entries", x.make(23, 0, 0), -5);
        due("under the root", x.make(0, 1, 0), -5);
        x.remove(23);
        due("with 23 again", x.make(0, 1, 0), 23);
        due("with 24 again", x.make(0, 2, 0), -5);
    }

    private static void removeWithAllBelow() {
        DirectoryTree x = family();
        x.remove(2);
        dueOrder("the others stay", x, 0, 1, 4, 3);
        for (int gone : new int[] {2, 5, 6}) {
            due("gone " + gone, x.child(gone, 0), -1);
        }
        due("its name is free", x.child(0, 3), -2);
        DirectoryTree y = chain();
        y.remove(12);
        due("the deeper half is gone", y.entries(), 12);
        due("the last that stays has none below", y.child(11, 7), -2);
    }

    private static void removeEntry() {
        DirectoryTree x = family();
        for (int entry : noEntries(6)) {
            due("entry " + entry, x.remove(entry), -1);
        }
        x.remove(5);
        due("gone", x.remove(5), -1);
        due("gone from below", x.remove(6), -1);
    }

    private static void removeRoot() {
        DirectoryTree x = family();
        due("with entries below", x.remove(0), -2);
        due("all are there", x.entries(), 7);
        due("alone", new DirectoryTree().remove(0), -2);
    }

    private static void removeHowMany() {
        due("the whole chain", chain().remove(1), 23);
        due("the chain's end", chain().remove(23), 1);
        due("ten children", full().remove(1), 11);
        due("a leaf", full().remove(10), 1);
        DirectoryTree x = full();
        x.move(1, 23, 0);
        due("a lesser number below a greater one", x.remove(23), 12);
        due("what is left", x.entries(), 12);
    }

    private static void moveWithAllBelow() {
        DirectoryTree x = family();
        x.put(6, 0, word(1));
        due("to the other side", x.move(2, 3, 0), 1);
        dueOrder("all below went along", x, 0, 1, 4, 3, 2, 5, 6);
        due("the next one is where it was", x.child(2, 5), 5);
        due("the last one too", x.child(5, 5), 6);
        dueValues("values went along", x, 6, 0, word(1));
        due("no more under the root", x.child(0, 3), -2);
        due("all are there", x.remove(1), 6);
    }

    private static void moveUnderItsOwnParent() {
        DirectoryTree x = family();
        due("with its own name", x.move(1, 0, 7), 1);
        dueOrder("nothing changed", x, 0, 2, 5, 6, 1, 4, 3);
        due("with another name", x.move(1, 0, 2), 1);
        dueOrder("to the front", x, 0, 1, 4, 3, 2, 5, 6);
        due("the old name is free", x.child(0, 7), -2);
    }

    private static void moveEntry() {
        DirectoryTree x = family();
        for (int entry : noEntries(6)) {
            due("entry " + entry, x.move(entry, 0, 1), -1);
        }
        x.remove(6);
        due("gone", x.move(6, 0, 1), -1);
    }

    private static void moveParent() {
        DirectoryTree x = family();
        for (int parent : noEntries(6)) {
            due("parent " + parent, x.move(1, parent, 1), -1);
        }
        x.remove(6);
        due("gone", x.move(1, 6, 1), -1);
    }

    private static void moveRoot() {
        DirectoryTree x = family();
        for (int parent = 0; parent <= 6; parent++) {
            due("under " + parent, x.move(0, parent, 1), -2);
        }
    }

    private static void moveUnderItself() {
        DirectoryTree x = family();
        for (int entry = 1; entry <= 6; entry++) {
            due("entry " + entry, x.move(entry, entry, 1), -2);
        }
    }

    private static void moveUnderOneBelow() {
        DirectoryTree x = chain();
        for (int entry = 1; entry < 23; entry++) {
            due("under its child", x.move(entry, entry + 1, 1), -2);
            due("under the deepest", x.move(entry, 23, 1), -2);
        }
        due("the deepest under the first", x.move(23, 1, 1), 1);
        due("no more below", x.move(22, 23, 1), 1);
    }

    private static void moveName() {
        DirectoryTree x = family();
        for (int name : outside(0, 9)) {
            due("name " + name, x.move(5, 0, name), -3);
            due("name " + name + " under its own parent", x.move(5, 2, name), -3);
        }
        due("the least", x.move(5, 0, 0), 1);
        due("the greatest", x.move(5, 0, 9), 1);
    }

    private static void moveNameTaken() {
        DirectoryTree x = family();
        due("under its own parent", x.move(1, 0, 3), -4);
        due("under another", x.move(6, 1, 0), -4);
        due("by one without any below", x.move(3, 1, 0), -4);
        due("its own name elsewhere", x.move(6, 2, 4), 1);
        due("a name that is another parent's", x.move(6, 0, 9), 1);
        x.remove(1);
        due("a name left by a removal", x.move(2, 0, 7), 1);
    }

    private static void moveInFullTree() {
        DirectoryTree x = full();
        due("from above to below", x.move(1, 10, 0), 1);
        due("to the greatest name", x.move(10, 23, 9), 1);
        dueOrder("a full tree in order", x,
            0, 2, 21, 22, 23, 10, 1, 11, 12, 13, 14, 15, 16, 17, 18, 19, 20, 3, 4, 5, 6, 7, 8, 9);
    }

    private static void putEntry() {
        DirectoryTree x = family();
        for (int entry : noEntries(6)) {
            due("entry " + entry, x.put(entry, 0, 0), -1);
        }
        x.remove(6);
        due("gone", x.put(6, 0, 0), -1);
        due("the root", x.put(0, 0, 0), 1);
        due("the last", full().put(23, 0, 0), 1);
    }

    private static void putAttribute() {
        DirectoryTree x = family();
        for (int attribute : outside(0, 5)) {
            due("attribute " + attribute, x.put(1, attribute, 0), -2);
        }
        due("32 is not 0", x.put(1, 32, 0), -2);
        for (int entry = 0; entry <= 6; entry++) {
            dueValues("nothing beside it", x, entry, 0);
            dueValues("nothing before it", x, entry, 5);
        }
    }

    private static void putNoValue() {
        DirectoryTree x = new DirectoryTree();
        for (int attribute = 0; attribute <= 3; attribute++) {
            for (int v : new int[] {-1, 6, 30, 36, 37, 41, 42, 180, 210, 216, 217, 259, 999, LEAST, GREATEST}) {
                due("no word " + v, x.put(0, attribute, v), -2);
            }
            due("the empty word", x.put(0, attribute, 0), 1);
            due("the last word", x.put(0, attribute, 215), 2);
        }
        for (int attribute = 4; attribute <= 5; attribute++) {
            for (int v : outside(-999, 999)) {
                due("no number " + v, x.put(0, attribute, v), -2);
            }
            due("the least number", x.put(0, attribute, -999), 1);
            due("the greatest number", x.put(0, attribute, 999), 2);
        }
    }

    private static void putNotAllowed() {
        for (int attribute = 0; attribute <= 5; attribute++) {
            DirectoryTree x = family();
            x.allow(1, 63 - (1 << attribute));
            for (int other = 0; other <= 5; other++) {
                due("class 1", x.put(2, other, 0), other == attribute ? -3 : 1);
                due("class 1, deeper", x.put(6, other, 0), other == attribute ? -3 : 1);
                due("class 0", x.put(0, other, 0), 1);
                due("class 3", x.put(4, other, 0), 1);
            }
            x.allow(1, 63);
            due("allowed again", x.put(2, attribute, 0), 1);
        }
    }

    private static void putTwice() {
        DirectoryTree x = new DirectoryTree();
        for (int attribute = 0; attribute <= 5; attribute++) {
            putValues(x, 0, attribute, 3, 1, 4, 0);
            for (int v : new int[] {0, 1, 3, 4}) {
                due("value " + v, x.put(0, attribute, v), -4);
            }
            dueValues("each once", x, 0, attribute, 0, 1, 3, 4);
            x.drop(0, attribute, 3);
            due("again after a drop", x.put(0, attribute, 3), 4);
        }
    }

    private static void putFifth() {
        DirectoryTree x = full();
        putValues(x, 23, 5, -999, 0, 1, 999);
        due("a fifth", x.put(23, 5, 2), -5);
        due("a fifth that would be the least", x.put(23, 5, -998), -5);
        dueValues("the four", x, 23, 5, -999, 0, 1, 999);
        due("another attribute has room", x.put(23, 4, 2), 1);
        due("another entry has room", x.put(22, 5, 2), 1);
        x.drop(23, 5, 0);
        due("after a drop", x.put(23, 5, 2), 4);
        due("full again", x.put(23, 5, 0), -5);
    }

    private static void putHowMany() {
        DirectoryTree x = family();
        for (int count = 1; count <= 4; count++) {
            due("of 0", x.put(1, 0, count), count);
            due("of 1, the other way round", x.put(1, 1, 5 - count), count);
        }
        dueValues("of 0", x, 1, 0, 1, 2, 3, 4);
        dueValues("of 1", x, 1, 1, 1, 2, 3, 4);
    }

    private static void dropEntry() {
        DirectoryTree x = family();
        for (int entry : noEntries(6)) {
            due("entry " + entry, x.drop(entry, 0, 0), -1);
        }
        x.put(6, 0, 0);
        x.remove(6);
        due("gone", x.drop(6, 0, 0), -1);
    }

    private static void dropAttribute() {
        DirectoryTree x = family();
        for (int entry = 0; entry <= 6; entry++) {
            x.put(entry, 0, 0);
            x.put(entry, 5, 0);
        }
        for (int attribute : outside(0, 5)) {
            due("attribute " + attribute, x.drop(1, attribute, 0), -2);
        }
        for (int entry = 0; entry <= 6; entry++) {
            dueValues("beside it", x, entry, 0, 0);
            dueValues("before it", x, entry, 5, 0);
        }
    }

    private static void dropNotThere() {
        DirectoryTree x = family();
        due("of an empty set", x.drop(1, 0, 0), -3);
        putValues(x, 1, 0, 1, 2, 3, 4);
        for (int v : new int[] {0, 5, 6, -1, 216, LEAST, GREATEST}) {
            due("value " + v, x.drop(1, 0, v), -3);
        }
        due("of another attribute", x.drop(1, 1, 1), -3);
        due("of another entry", x.drop(2, 0, 1), -3);
        x.drop(1, 0, 4);
        due("the last one again", x.drop(1, 0, 4), -3);
        x.allow(2, 0);
        due("of an attribute not allowed", x.drop(3, 5, 0), -3);
    }

    private static void dropHowMany() {
        for (int attribute = 0; attribute <= 5; attribute++) {
            DirectoryTree x = new DirectoryTree();
            putValues(x, 0, attribute, 1, 2, 3, 4);
            for (int v = 1; v <= 4; v++) {
                due("without " + v, x.drop(0, attribute, v), 4 - v);
            }
            due("nothing is left", x.drop(0, attribute, 4), -3);
        }
    }

    private static void dropEachPlace() {
        int[][] left = {{}, {2, 3, 4}, {1, 3, 4}, {1, 2, 4}, {1, 2, 3}};
        for (int v = 1; v <= 4; v++) {
            DirectoryTree x = new DirectoryTree();
            putValues(x, 0, 2, 1, 2, 3, 4);
            putValues(x, 0, 3, 1, 2, 3, 4);
            x.drop(0, 2, v);
            dueValues("without " + v, x, 0, 2, left[v]);
            dueValues("the next attribute's stay", x, 0, 3, 1, 2, 3, 4);
        }
    }

    private static void allowKind() {
        DirectoryTree x = new DirectoryTree();
        for (int kind : outside(0, 3)) {
            due("class " + kind, x.allow(kind, 0), -2);
        }
        for (int kind = 0; kind <= 3; kind++) {
            due("class " + kind, x.allow(kind, 63), 63);
        }
    }

    private static void allowSet() {
        DirectoryTree x = new DirectoryTree();
        for (int allowed : outside(0, 63)) {
            due("set " + allowed, x.allow(3, allowed), -2);
        }
        due("127 is not 63", x.allow(3, 127), -2);
        due("the least", x.allow(3, 0), 63);
        due("the greatest", x.allow(3, 63), 0);
        due("that was it", x.allow(3, 63), 63);
    }

    private static void allowWithValues() {
        for (int attribute = 0; attribute <= 5; attribute++) {
            int without = 63 - (1 << attribute);
            DirectoryTree x = full();
            x.put(23, attribute, 0);
            due("the last entry's class", x.allow(3, without), -3);
            due("none at all", x.allow(3, 0), -3);
            due("another class", x.allow(0, without), 63);
            x.allow(0, 63);
            x.put(0, attribute, 0);
            due("the root's class", x.allow(0, without), -3);
            x.drop(0, attribute, 0);
            due("after the drop", x.allow(0, without), 63);
            x.remove(23);
            due("after the removal", x.allow(3, without), 63);
        }
    }

    private static void allowOtherAttributes() {
        for (int attribute = 0; attribute <= 5; attribute++) {
            DirectoryTree x = new DirectoryTree();
            putValues(x, 0, attribute, 1, 2, 3, 4);
            due("this one alone", x.allow(0, 1 << attribute), 63);
            due("the same again", x.allow(0, 1 << attribute), 1 << attribute);
            due("none", x.allow(0, 0), -3);
            due("all", x.allow(0, 63), 1 << attribute);
        }
    }

    private static void allowAnswers() {
        DirectoryTree x = new DirectoryTree();
        int[] before = {63, 63, 63, 63};
        for (int allowed : new int[] {0, 1, 32, 62, 31, 63}) {
            for (int kind = 0; kind <= 3; kind++) {
                due("class " + kind, x.allow(kind, (allowed + kind) % 64), before[kind]);
                before[kind] = (allowed + kind) % 64;
            }
        }
    }

    private static void tokenKind() {
        DirectoryTree x = new DirectoryTree();
        x.token(PRESENT, 0, 0);
        x.token(PRESENT, 0, 0);
        for (int kind : outside(0, 7)) {
            due("kind " + kind, x.token(kind, 0, 0), -1);
        }
        due("the greatest", x.token(7, 0, 0), 1);
        due("the least", x.token(0, 0, 0), 2);
    }

    private static void tokenAttribute() {
        for (int kind = PRESENT; kind <= CONTAINS; kind++) {
            DirectoryTree x = new DirectoryTree();
            for (int attribute : outside(0, 5)) {
                due("kind " + kind + " of " + attribute, x.token(kind, attribute, 0), -1);
            }
            for (int attribute = 0; attribute <= 5; attribute++) {
                due("kind " + kind + " of " + attribute, x.token(kind, attribute, LEAST), attribute + 1);
            }
        }
    }

    private static void tokenNotLookedAt() {
        for (int far : new int[] {-1, 6, 32, LEAST, GREATEST}) {
            DirectoryTree x = new DirectoryTree();
            x.put(0, 4, 1);
            putConstant(x, 1);
            putConstant(x, 0);
            putConstant(x, 0);
            due("OR", x.token(OR, far, far), 2);
            due("NOT", x.token(NOT, far, far), 2);
            due("AND", x.token(AND, far, far), 1);
            due("true AND NOT (false OR false)", x.test(0), 1);
            due("of nothing", new DirectoryTree().token(NOT, far, far), -3);
        }
    }

    private static void tokenLimitAtFirst() {
        DirectoryTree x = new DirectoryTree();
        putTokens(x, PRESENT, 6);
        putTokens(x, NOT, 13);
        due("the 20th", x.token(AND, 0, 0), 5);
        for (int kind = PRESENT; kind <= OR; kind++) {
            due("a 21st of kind " + kind, x.token(kind, 0, 0), -2);
        }
        due("five filters", x.clear(), 5);
    }

    private static void tokenLimitSinceClear() {
        DirectoryTree x = new DirectoryTree();
        for (int before : new int[] {0, 3, 20}) {
            putTokens(x, PRESENT, before == 0 ? 0 : 1);
            putTokens(x, NOT, before - 1);
            x.clear();
            due("the first after " + before, x.token(PRESENT, 0, 0), 1);
            for (int put = 2; put <= 20; put++) {
                due("number " + put + " after " + before, x.token(NOT, 0, 0), 1);
            }
            due("one more after " + before, x.token(NOT, 0, 0), -2);
            x.clear();
        }
    }

    private static void tokenRefusedDoNotCount() {
        DirectoryTree x = new DirectoryTree();
        putTokens(x, NOT, 30);
        putTokens(x, 8, 30);
        putTokens(x, PRESENT, 30);
        due("six were put", x.token(AND, 0, 0), 5);
        putTokens(x, NOT, 12);
        due("the 20th", x.token(NOT, 0, 0), 5);
        due("the 21st", x.token(NOT, 0, 0), -2);
    }

    private static void tokenTakesTooMany() {
        DirectoryTree x = new DirectoryTree();
        for (int kind = NOT; kind <= OR; kind++) {
            due("kind " + kind + " of none", x.token(kind, 0, 0), -3);
        }
        x.token(PRESENT, 0, 0);
        due("AND of one", x.token(AND, 0, 0), -3);
        due("OR of one", x.token(OR, 0, 0), -3);
        due("NOT of one", x.token(NOT, 0, 0), 1);
        x.token(PRESENT, 0, 0);
        due("AND of two", x.token(AND, 0, 0), 1);
        due("AND of what is left", x.token(AND, 0, 0), -3);
        x.token(PRESENT, 0, 0);
        due("OR of two", x.token(OR, 0, 0), 1);
        due("OR of what is left", x.token(OR, 0, 0), -3);
        x.clear();
        due("NOT after clear", x.token(NOT, 0, 0), -3);
    }

    private static void tokenSeventh() {
        DirectoryTree x = new DirectoryTree();
        putTokens(x, PRESENT, 5);
        for (int kind = PRESENT; kind <= CONTAINS; kind++) {
            due("a sixth of kind " + kind, x.token(kind, 0, 0), 6);
            for (int seventh = PRESENT; seventh <= CONTAINS; seventh++) {
                due("a seventh of kind " + seventh, x.token(seventh, 0, 0), -4);
            }
            due("one less", x.token(OR, 0, 0), 5);
        }
        x.token(PRESENT, 0, 0);
        due("NOT takes one of six", x.token(NOT, 0, 0), 6);
        due("AND takes two of six", x.token(AND, 0, 0), 5);
    }

    private static void tokenHowMany() {
        DirectoryTree x = new DirectoryTree();
        for (int filters = 1; filters <= 6; filters++) {
            due("up", x.token(filters % 5, 0, 0), filters);
            due("NOT keeps them", x.token(NOT, 0, 0), filters);
        }
        for (int filters = 5; filters >= 1; filters--) {
            due("down", x.token(filters % 2 == 0 ? AND : OR, 0, 0), filters);
        }
        due("one is left", x.clear(), 1);
    }

    private static void clearEmpties() {
        for (int filters = 0; filters <= 6; filters++) {
            DirectoryTree x = new DirectoryTree();
            putTokens(x, PRESENT, filters);
            x.clear();
            due("test", x.test(0), -2);
            due("count", x.count(0, 0), -3);
            due("found", x.found(0, 0, 0), -3);
            due("NOT", x.token(NOT, 0, 0), -3);
            x.put(0, 4, 1);
            putConstant(x, 1);
            due("nothing of before is left", x.test(0), 1);
        }
    }

    private static void clearMakesRoom() {
        DirectoryTree x = new DirectoryTree();
        for (int round = 0; round < 20; round++) {
            due("the first", x.token(PRESENT, 0, 0), 1);
            putTokens(x, NOT, 18);
            due("the 20th", x.token(NOT, 0, 0), 1);
            due("the 21st", x.token(NOT, 0, 0), -2);
            due("clear", x.clear(), 1);
        }
    }

    private static void clearHowMany() {
        DirectoryTree x = new DirectoryTree();
        for (int filters = 0; filters <= 6; filters++) {
            putTokens(x, PRESENT, filters);
            due("filters", x.clear(), filters);
            due("again", x.clear(), 0);
        }
    }
}
