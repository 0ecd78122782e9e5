/** For each promise of the document: ordinary inputs, and the edges and wrong inputs beside them. */
public final class PromisesTest extends Checks {
    public static void main(String[] args) {
        newObject();
        make();
        remove();
        removedValuesStayAway();
        move();
        put();
        drop();
        allow();
        token();
        clear();
        entries();
        entryAt();
        child();
        valueAt();
        presentAndEqual();
        atLeast();
        begins();
        contains();
        connectives();
        filtersFollowTheState();
        count();
        found();
        different();
        end();
    }

    private static void newObject() {
        DirectoryTree x = new DirectoryTree();
        dueOrder("new", x, 0);
        due("new: no entry but the root", x.valueAt(1, 0, 0), -1000);
        due("new: no filter", x.test(0), -2);
        due("new: clear", x.clear(), 0);
        for (int attribute = 0; attribute < 6; attribute++) {
            dueValues("new: no values", x, 0, attribute);
            due("new: nothing different", x.different(attribute), 0);
        }
        for (int kind = 0; kind < 4; kind++) {
            due("new: class " + kind + " allows all", x.allow(kind, 63), 63);
        }
        x.token(PRESENT, 0, 0);
        x.allow(0, 0);
        due("new: the root has class 0", x.test(0), 2);
        DirectoryTree y = new DirectoryTree();
        due("new: objects share nothing", y.test(0), -2);
    }

    private static void make() {
        DirectoryTree x = new DirectoryTree();
        due("make: least name, least class", x.make(0, 0, 0), 1);
        due("make: greatest name, greatest class", x.make(0, 9, 3), 2);
        due("make: a name of another parent's", x.make(1, 0, 0), 3);
        due("make: parent taken out", x.remove(1), 2);
        due("make: parent that is no more", x.make(3, 1, 0), -1);
        due("make: the least free number", x.make(2, 4, 0), 1);
        due("make: the next free number", x.make(1, 4, 0), 3);
        due("make: then a new one", x.make(3, 4, 0), 4);
        for (int parent : new int[] {-1, 5, 23, 24, LEAST, GREATEST}) {
            due("make: parent " + parent, x.make(parent, 0, 0), -1);
        }
        for (int name : new int[] {-1, 10, LEAST, GREATEST}) {
            due("make: name " + name, x.make(0, name, 0), -2);
        }
        due("make: the name is there", x.make(0, 9, 0), -3);
        for (int kind : new int[] {-1, 4, LEAST, GREATEST}) {
            due("make: class " + kind, x.make(0, 8, kind), -4);
        }
        DirectoryTree y = full();
        due("make: the 25th entry", y.make(23, 0, 0), -5);
        due("make: place again", y.remove(23), 1);
        due("make: the last place", y.make(22, 0, 0), 23);
    }

    private static void remove() {
        DirectoryTree x = family();
        for (int entry : new int[] {-1, 7, 24, LEAST, GREATEST}) {
            due("remove: entry " + entry, x.remove(entry), -1);
        }
        due("remove: the root", x.remove(0), -2);
        due("remove: with all below", x.remove(2), 3);
        dueOrder("remove", x, 0, 1, 4, 3);
        due("remove: gone", x.remove(2), -1);
        due("remove: gone from below", x.remove(6), -1);
        due("remove: a leaf", x.remove(4), 1);
        due("remove: a lower number below a higher one", x.make(3, 1, 0), 2);
        due("remove: deeper", x.make(2, 1, 0), 4);
        due("remove: from the higher number", x.remove(3), 3);
        dueOrder("remove: left", x, 0, 1);
    }

    private static void removedValuesStayAway() {
        DirectoryTree x = new DirectoryTree();
        x.make(0, 0, 1);
        x.put(1, 2, word(1));
        x.put(1, 5, 8);
        x.remove(1);
        due("remove: its values count no more", x.different(2), 0);
        due("remove: its values bind no class", x.allow(1, 0), 63);
        x.make(0, 0, 2);
        dueValues("make: no values of the number's last entry", x, 1, 2);
        due("make: its own first value", x.put(1, 5, 8), 1);
    }

    private static void move() {
        DirectoryTree x = family();
        dueOrder("move: before", x, 0, 2, 5, 6, 1, 4, 3);
        due("move: to its own place", x.move(5, 2, 5), 1);
        due("move: to another name", x.move(2, 0, 9), 1);
        dueOrder("move: behind its brother", x, 0, 1, 4, 3, 2, 5, 6);
        due("move: the old name is free", x.child(0, 3), -2);
        due("move: with all below", x.move(5, 4, 0), 1);
        dueOrder("move: under another", x, 0, 1, 4, 5, 6, 3, 2);
        due("move: no more under the old parent", x.child(2, 5), -2);
        due("move: up to its parent's parent", x.move(6, 4, 1), 1);
        dueOrder("move: up", x, 0, 1, 4, 5, 6, 3, 2);
        due("move: least name", x.move(6, 0, 0), 1);
        dueOrder("move: to the front", x, 0, 6, 1, 4, 5, 3, 2);
        for (int none : new int[] {-1, 7, 24, LEAST, GREATEST}) {
            due("move: entry " + none, x.move(none, 0, 1), -1);
            due("move: parent " + none, x.move(1, none, 1), -1);
        }
        due("move: the root", x.move(0, 1, 1), -2);
        due("move: under itself", x.move(1, 1, 1), -2);
        due("move: under its child", x.move(1, 3, 1), -2);
        due("move: under one far below", x.move(1, 5, 1), -2);
        for (int name : new int[] {-1, 10, LEAST, GREATEST}) {
            due("move: name " + name, x.move(1, 0, name), -3);
        }
        due("move: the name is another's", x.move(1, 0, 9), -4);
        due("move: another's name under its own parent", x.move(3, 1, 0), -4);
        dueOrder("move: refused ones change nothing", x, 0, 6, 1, 4, 5, 3, 2);
    }

    private static void put() {
        DirectoryTree x = family();
        due("put: first", x.put(3, 4, 999), 1);
        due("put: second", x.put(3, 4, -999), 2);
        due("put: of another attribute", x.put(3, 5, 999), 1);
        due("put: of another entry", x.put(4, 4, 999), 1);
        due("put: third", x.put(3, 4, 0), 3);
        due("put: fourth", x.put(3, 4, 1), 4);
        due("put: fifth", x.put(3, 4, 2), -5);
        dueValues("put", x, 3, 4, -999, 0, 1, 999);
        for (int entry : new int[] {-1, 7, 24, LEAST, GREATEST}) {
            due("put: entry " + entry, x.put(entry, 4, 0), -1);
        }
        for (int attribute : new int[] {-1, 6, LEAST, GREATEST}) {
            due("put: attribute " + attribute, x.put(1, attribute, 0), -2);
        }
        for (int v : new int[] {-1000, 1000, LEAST, GREATEST}) {
            due("put: number " + v, x.put(1, 4, v), -2);
            due("put: number " + v, x.put(1, 5, v), -2);
        }
        x.allow(0, 0b101110);
        due("put: not allowed", x.put(1, 0, 0), -3);
        due("put: not allowed either", x.put(5, 4, 0), -3);
        due("put: allowed beside it", x.put(1, 1, 0), 1);
        due("put: another class allows it", x.put(2, 0, 0), 1);
        due("put: has it", x.put(1, 1, 0), -4);
    }

    private static void drop() {
        DirectoryTree x = new DirectoryTree();
        for (int v : new int[] {word(2), word(1), word(3, 3), word()}) {
            x.put(0, 0, v);
        }
        due("drop: from the middle", x.drop(0, 0, word(1)), 3);
        dueValues("drop", x, 0, 0, word(), word(2), word(3, 3));
        due("drop: the last in order", x.drop(0, 0, word(3, 3)), 2);
        due("drop: the first in order", x.drop(0, 0, word()), 1);
        due("drop: it again", x.drop(0, 0, word()), -3);
        due("drop: never had", x.drop(0, 0, word(5)), -3);
        due("drop: of another attribute", x.drop(0, 1, word(2)), -3);
        due("drop: what is no word", x.drop(0, 0, 6), -3);
        due("drop: the only one", x.drop(0, 0, word(2)), 0);
        dueValues("drop: all", x, 0, 0);
        due("drop: room again", x.put(0, 0, word(2)), 1);
        due("drop: far off", x.drop(0, 4, GREATEST), -3);
        for (int entry : new int[] {-1, 1, 24, LEAST, GREATEST}) {
            due("drop: entry " + entry, x.drop(entry, 6, 0), -1);
        }
        for (int attribute : new int[] {-1, 6, LEAST, GREATEST}) {
            due("drop: attribute " + attribute, x.drop(0, attribute, 0), -2);
        }
    }

    private static void allow() {
        DirectoryTree x = family();
        due("allow: what it allowed", x.allow(1, 5), 63);
        due("allow: what it allowed then", x.allow(1, 0), 5);
        due("allow: all again", x.allow(1, 63), 0);
        due("allow: another class is as before", x.allow(2, 63), 63);
        for (int kind : new int[] {-1, 4, LEAST, GREATEST}) {
            due("allow: class " + kind, x.allow(kind, 63), -2);
        }
        for (int allowed : new int[] {-1, 64, LEAST, GREATEST}) {
            due("allow: set " + allowed, x.allow(0, allowed), -2);
        }
        x.put(6, 5, 1);
        x.put(2, 0, word(1));
        due("allow: an entry has a value", x.allow(1, 31), -3);
        due("allow: another entry has a value", x.allow(1, 62), -3);
        due("allow: just what they have", x.allow(1, 33), 63);
        due("allow: refused ones changed nothing", x.allow(1, 33), 33);
        due("allow: other classes are free", x.allow(0, 0), 63);
        x.drop(6, 5, 1);
        due("allow: after the drop", x.allow(1, 1), 33);
        x.remove(2);
        due("allow: after the removal", x.allow(1, 0), 1);
        DirectoryTree y = full();
        y.put(23, 3, 0);
        due("allow: the last entry has a value", y.allow(3, 55), -3);
        y.put(0, 3, 0);
        due("allow: the root has a value", y.allow(0, 55), -3);
    }

    private static void token() {
        DirectoryTree x = new DirectoryTree();
        for (int kind : new int[] {-1, 8, LEAST, GREATEST}) {
            due("token: kind " + kind, x.token(kind, 0, 0), -1);
        }
        for (int kind = PRESENT; kind <= CONTAINS; kind++) {
            for (int attribute : new int[] {-1, 6, LEAST, GREATEST}) {
                due("token: " + kind + " of attribute " + attribute, x.token(kind, attribute, 0), -1);
            }
        }
        due("token: NOT of nothing", x.token(NOT, 0, 0), -3);
        due("token: AND of nothing", x.token(AND, 0, 0), -3);
        due("token: OR of nothing", x.token(OR, 0, 0), -3);
        for (int kind = PRESENT; kind <= CONTAINS; kind++) {
            due("token: " + kind, x.token(kind, kind, 0), kind + 1);
        }
        due("token: the sixth filter", x.token(PRESENT, 5, GREATEST), 6);
        for (int kind = PRESENT; kind <= CONTAINS; kind++) {
            due("token: a seventh filter", x.token(kind, 0, 0), -4);
        }
        due("token: NOT of six", x.token(NOT, GREATEST, LEAST), 6);
        due("token: AND of six", x.token(AND, -1, GREATEST), 5);
        due("token: OR of five", x.token(OR, 6, LEAST), 4);
        x.clear();
        x.token(PRESENT, 0, 0);
        due("token: AND of one", x.token(AND, 0, 0), -3);
        due("token: OR of one", x.token(OR, 0, 0), -3);
        due("token: NOT of one", x.token(NOT, 0, 0), 1);
    }

    private static void clear() {
        DirectoryTree x = new DirectoryTree();
        due("clear: nothing", x.clear(), 0);
        x.token(PRESENT, 0, 0);
        x.token(PRESENT, 1, 0);
        x.token(PRESENT, 2, 0);
        x.token(OR, 0, 0);
        due("clear: two filters", x.clear(), 2);
        due("clear: again", x.clear(), 0);
        due("clear: empty", x.test(0), -2);
        due("clear: nothing to take", x.token(NOT, 0, 0), -3);
        x.put(0, 4, 1);
        x.token(PRESENT, 4, 0);
        due("clear: nothing is left of before", x.test(0), 1);
        x.make(0, 0, 0);
        x.clear();
        dueOrder("clear: entries stay", x, 0, 1);
        dueValues("clear: values stay", x, 0, 4, 1);
    }

    private static void entries() {
        DirectoryTree x = family();
        due("entries", x.entries(), 7);
        x.make(0, 7, 0);
        due("entries: after a refused make", x.entries(), 7);
        x.move(5, 0, 0);
        due("entries: after a move", x.entries(), 7);
        x.remove(1);
        due("entries: after a removal of three", x.entries(), 4);
        due("entries: all", full().entries(), 24);
    }

    private static void entryAt() {
        DirectoryTree x = family();
        dueOrder("entryAt", x, 0, 2, 5, 6, 1, 4, 3);
        for (int k : new int[] {-1, 23, 24, LEAST, GREATEST}) {
            due("entryAt: " + k, x.entryAt(k), -2);
        }
        x.remove(5);
        due("entryAt: the least free number, far behind", x.make(3, 0, 0), 5);
        dueOrder("entryAt: after changes", x, 0, 2, 1, 4, 3, 5);
        DirectoryTree deep = chain();
        for (int k = 0; k < 24; k++) {
            due("entryAt: deep " + k, deep.entryAt(k), k);
        }
        due("entryAt: behind 24", deep.entryAt(24), -2);
        due("entryAt: nothing goes below its own depth", deep.move(1, 23, 0), -2);
        due("entryAt: the whole chain goes", deep.remove(1), 23);
        DirectoryTree wide = new DirectoryTree();
        for (int name = 9; name >= 0; name--) {
            wide.make(0, name, 0);
        }
        dueOrder("entryAt: by name", wide, 0, 10, 9, 8, 7, 6, 5, 4, 3, 2, 1);
        DirectoryTree y = full();
        y.make(23, 0, 0);
        dueOrder("entryAt: a full tree", y,
            0, 1, 11, 12, 13, 14, 15, 16, 17, 18, 19, 20, 2, 21, 22, 23, 3, 4, 5, 6, 7, 8, 9, 10);
    }

    private static void child() {
        DirectoryTree x = family();
        due("child: of the root", x.child(0, 7), 1);
        due("child: of another", x.child(1, 0), 4);
        due("child: not of this parent", x.child(0, 0), -2);
        due("child: not what is further below", x.child(2, 9), -2);
        for (int name : new int[] {-1, 10, LEAST, GREATEST}) {
            due("child: name " + name, x.child(0, name), -2);
        }
        for (int parent : new int[] {-1, 7, 24, LEAST, GREATEST}) {
            due("child: parent " + parent, x.child(parent, 0), -1);
        }
        x.remove(1);
        due("child: gone", x.child(0, 7), -2);
        due("child: its parent is gone", x.child(1, 0), -1);
        due("child: the root is no child of its own", x.child(0, 0), -2);
    }

    private static void valueAt() {
        DirectoryTree x = new DirectoryTree();
        for (int v : new int[] {word(2, 1), word(1, 5, 5), word(2), word(1, 5)}) {
            x.put(0, 3, v);
        }
        dueValues("valueAt: words", x, 0, 3, word(1, 5), word(1, 5, 5), word(2), word(2, 1));
        for (int v : new int[] {word(1, 1, 2), word(1, 2), word(1, 1), word()}) {
            x.put(0, 0, v);
        }
        dueValues("valueAt: beginnings", x, 0, 0, word(), word(1, 1), word(1, 1, 2), word(1, 2));
        for (int v : new int[] {5, -7, 999, -999}) {
            x.put(0, 5, v);
        }
        dueValues("valueAt: numbers", x, 0, 5, -999, -7, 5, 999);
        dueValues("valueAt: none", x, 0, 4);
        for (int k : new int[] {-1, 4, 5, LEAST, GREATEST}) {
            due("valueAt: k " + k, x.valueAt(0, 5, k), -1001);
        }
        for (int attribute : new int[] {-1, 6, LEAST, GREATEST}) {
            due("valueAt: attribute " + attribute, x.valueAt(0, attribute, 0), -1001);
        }
        for (int entry : new int[] {-1, 1, 24, LEAST, GREATEST}) {
            due("valueAt: entry " + entry, x.valueAt(entry, 6, -1), -1000);
        }
        x.allow(1, 0);
        x.make(0, 0, 1);
        due("valueAt: not allowed, so none", x.valueAt(1, 0, 0), -1001);
    }

    private static void presentAndEqual() {
        DirectoryTree x = family();
        x.allow(2, 0b111110);
        x.put(1, 0, word(1, 2));
        x.put(1, 0, word(3));
        x.put(1, 4, 0);
        due("PRESENT: there", alone(x, 1, PRESENT, 0, 0), 1);
        due("PRESENT: v is not looked at", alone(x, 1, PRESENT, 0, 6), 1);
        due("PRESENT: v is not looked at for none", alone(x, 5, PRESENT, 0, LEAST), 0);
        due("PRESENT: number 0", alone(x, 1, PRESENT, 4, 7), 1);
        due("PRESENT: another attribute", alone(x, 1, PRESENT, 1, 0), 0);
        due("PRESENT: not allowed", alone(x, 3, PRESENT, 0, 0), 2);
        due("EQUAL: first value", alone(x, 1, EQUAL, 0, word(1, 2)), 1);
        due("EQUAL: last value", alone(x, 1, EQUAL, 0, word(3)), 1);
        due("EQUAL: between", alone(x, 1, EQUAL, 0, word(2)), 0);
        due("EQUAL: a beginning is not it", alone(x, 1, EQUAL, 0, word(1)), 0);
        due("EQUAL: no values", alone(x, 5, EQUAL, 0, word(3)), 0);
        due("EQUAL: not allowed", alone(x, 3, EQUAL, 0, word(3)), 2);
        due("EQUAL: a number", alone(x, 1, EQUAL, 4, 0), 1);
        due("EQUAL: another number", alone(x, 1, EQUAL, 4, -999), 0);
    }

    private static void atLeast() {
        DirectoryTree x = new DirectoryTree();
        x.put(0, 0, word(2, 3));
        x.put(0, 0, word(1));
        x.put(0, 4, -5);
        x.put(0, 4, -9);
        due("ATLEAST: itself", alone(x, 0, ATLEAST, 0, word(2, 3)), 1);
        due("ATLEAST: its beginning", alone(x, 0, ATLEAST, 0, word(2)), 1);
        due("ATLEAST: less in the second letter", alone(x, 0, ATLEAST, 0, word(2, 2, 5)), 1);
        due("ATLEAST: less in the first letter", alone(x, 0, ATLEAST, 0, word(1, 5, 5)), 1);
        due("ATLEAST: the empty word", alone(x, 0, ATLEAST, 0, word()), 1);
        due("ATLEAST: a longer one", alone(x, 0, ATLEAST, 0, word(2, 3, 1)), 0);
        due("ATLEAST: a greater letter", alone(x, 0, ATLEAST, 0, word(3)), 0);
        due("ATLEAST: a greater second letter", alone(x, 0, ATLEAST, 0, word(2, 4)), 0);
        due("ATLEAST: no values", alone(x, 0, ATLEAST, 1, word()), 0);
        due("ATLEAST: that number", alone(x, 0, ATLEAST, 4, -5), 1);
        due("ATLEAST: a lesser number", alone(x, 0, ATLEAST, 4, -6), 1);
        due("ATLEAST: a greater number", alone(x, 0, ATLEAST, 4, -4), 0);
        x.allow(0, 0b010001);
        due("ATLEAST: not allowed", alone(x, 0, ATLEAST, 1, word()), 2);
    }

    private static void begins() {
        DirectoryTree x = new DirectoryTree();
        x.put(0, 1, word(1, 2, 3));
        x.put(0, 2, word());
        x.put(0, 3, word(4));
        x.put(0, 4, 1);
        due("BEGINS: itself", alone(x, 0, BEGINS, 1, word(1, 2, 3)), 1);
        due("BEGINS: two letters", alone(x, 0, BEGINS, 1, word(1, 2)), 1);
        due("BEGINS: one letter", alone(x, 0, BEGINS, 1, word(1)), 1);
        due("BEGINS: empty", alone(x, 0, BEGINS, 1, word()), 1);
        due("BEGINS: the end", alone(x, 0, BEGINS, 1, word(2, 3)), 0);
        due("BEGINS: another last letter", alone(x, 0, BEGINS, 1, word(1, 2, 4)), 0);
        due("BEGINS: another second letter", alone(x, 0, BEGINS, 1, word(1, 3)), 0);
        due("BEGINS: empty with empty", alone(x, 0, BEGINS, 2, word()), 1);
        due("BEGINS: empty with a letter", alone(x, 0, BEGINS, 2, word(1)), 0);
        due("BEGINS: longer than the word", alone(x, 0, BEGINS, 3, word(4, 1)), 0);
        due("BEGINS: no values", alone(x, 0, BEGINS, 0, word()), 0);
        due("BEGINS: number", alone(x, 0, BEGINS, 4, 1), 2);
        due("BEGINS: number without values", alone(x, 0, BEGINS, 5, 0), 2);
        x.put(0, 3, word(5, 5));
        due("BEGINS: another value", alone(x, 0, BEGINS, 3, word(5)), 1);
        x.allow(0, 0b011110);
        due("BEGINS: not allowed", alone(x, 0, BEGINS, 0, word()), 2);
    }

    private static void contains() {
        DirectoryTree x = new DirectoryTree();
        x.put(0, 1, word(1, 2, 3));
        x.put(0, 2, word());
        x.put(0, 3, word(4));
        x.put(0, 5, 1);
        for (int[] part : new int[][] {{}, {1}, {2}, {3}, {1, 2}, {2, 3}, {1, 2, 3}}) {
            due("CONTAINS: part " + word(part), alone(x, 0, CONTAINS, 1, word(part)), 1);
        }
        for (int[] part : new int[][] {{4}, {1, 3}, {2, 1}, {3, 1}, {3, 3}, {1, 2, 4}, {2, 3, 1}, {3, 2, 1}}) {
            due("CONTAINS: no part " + word(part), alone(x, 0, CONTAINS, 1, word(part)), 0);
        }
        due("CONTAINS: empty in empty", alone(x, 0, CONTAINS, 2, word()), 1);
        due("CONTAINS: a letter in empty", alone(x, 0, CONTAINS, 2, word(1)), 0);
        due("CONTAINS: longer than the word", alone(x, 0, CONTAINS, 3, word(4, 4)), 0);
        due("CONTAINS: no values", alone(x, 0, CONTAINS, 0, word()), 0);
        due("CONTAINS: number", alone(x, 0, CONTAINS, 5, 1), 2);
        due("CONTAINS: number without values", alone(x, 0, CONTAINS, 4, 0), 2);
        x.put(0, 3, word(5, 1));
        due("CONTAINS: in another value", alone(x, 0, CONTAINS, 3, word(1)), 1);
        due("CONTAINS: not across values", alone(x, 0, CONTAINS, 3, word(4, 5)), 0);
        x.allow(0, 0b101110);
        due("CONTAINS: not allowed", alone(x, 0, CONTAINS, 0, word()), 2);
    }

    private static void connectives() {
        for (int f = 0; f <= 2; f++) {
            DirectoryTree x = new DirectoryTree();
            x.put(0, 4, 1);
            putConstant(x, f);
            x.token(NOT, 0, 0);
            due("NOT " + f, x.test(0), NOT_OF[f]);
            for (int g = 0; g <= 2; g++) {
                for (int under = 0; under <= 2; under++) {
                    x.clear();
                    putConstant(x, under);
                    putConstant(x, f);
                    putConstant(x, g);
                    x.token(AND, 0, 0);
                    due(f + " AND " + g, x.test(0), AND_OF[f][g]);
                    x.token(OR, 0, 0);
                    due(under + " OR (" + f + " AND " + g + ")", x.test(0), OR_OF[under][AND_OF[f][g]]);
                    x.clear();
                    putConstant(x, under);
                    putConstant(x, f);
                    putConstant(x, g);
                    x.token(OR, 0, 0);
                    due(f + " OR " + g, x.test(0), OR_OF[f][g]);
                    x.token(NOT, 0, 0);
                    x.token(AND, 0, 0);
                    due(under + " AND NOT (" + f + " OR " + g + ")", x.test(0), AND_OF[under][NOT_OF[OR_OF[f][g]]]);
                }
            }
        }
    }

    private static void filtersFollowTheState() {
        DirectoryTree x = new DirectoryTree();
        x.make(0, 0, 1);
        x.token(PRESENT, 5, 0);
        due("filter: before the value", x.test(1), 0);
        x.put(1, 5, 3);
        due("filter: with the value", x.test(1), 1);
        due("filter: another entry", x.test(0), 0);
        x.drop(1, 5, 3);
        x.allow(1, 31);
        due("filter: no more allowed", x.test(1), 2);
        due("filter: another class", x.test(0), 0);
        x.allow(1, 32);
        due("filter: allowed again", x.test(1), 0);
    }

    private static void dueSearchRefusals(String what, DirectoryTree x, int entry, int scope, int want) {
        due(what + ", count", x.count(entry, scope), want);
        due(what + ", found", x.found(entry, scope, 0), want);
        due(what + ", found with k -1", x.found(entry, scope, -1), want);
    }

    private static void count() {
        DirectoryTree x = family();
        for (int entry : new int[] {-1, 7, 24, LEAST, GREATEST}) {
            dueSearchRefusals("search: entry " + entry, x, entry, 4, -1);
        }
        for (int scope : new int[] {-1, 4, LEAST, GREATEST}) {
            dueSearchRefusals("search: scope " + scope, x, 0, scope, -2);
        }
        dueSearchRefusals("search: empty", x, 0, 2, -3);
        x.token(PRESENT, 0, 0);
        x.token(NOT, 0, 0);
        due("count: the entry itself", x.count(0, 0), 1);
        due("count: the root's children", x.count(0, 1), 2);
        due("count: all", x.count(0, 2), 7);
        due("count: all below", x.count(0, 3), 6);
        due("count: a leaf itself", x.count(6, 0), 1);
        due("count: a leaf's children", x.count(6, 1), 0);
        due("count: a leaf and below", x.count(6, 2), 1);
        due("count: below a leaf", x.count(6, 3), 0);
        x.allow(0, 62);
        due("count: the undefined do not count", x.count(0, 2), 4);
        due("count: the undefined root", x.count(0, 0), 0);
        x.put(6, 0, 0);
        due("count: the false do not count", x.count(0, 2), 3);
        x.token(PRESENT, 0, 0);
        due("count: by the top alone", x.count(0, 2), 1);
        DirectoryTree deep = chain();
        deep.token(PRESENT, 0, 0);
        deep.token(NOT, 0, 0);
        due("count: a deep tree", deep.count(0, 2), 24);
        due("count: deep below the root", deep.count(0, 3), 23);
        due("count: deep children", deep.count(0, 1), 1);
        due("found: the deepest", deep.found(0, 3, 22), 23);
    }

    private static void found() {
        DirectoryTree x = family();
        x.token(PRESENT, 0, 0);
        dueFound("found: none", x, 0, 2);
        x.token(NOT, 0, 0);
        dueFound("found: itself", x, 2, 0, 2);
        dueFound("found: children", x, 0, 1, 2, 1);
        dueFound("found: children of 1", x, 1, 1, 4, 3);
        dueFound("found: all", x, 0, 2, 0, 2, 5, 6, 1, 4, 3);
        dueFound("found: below the root", x, 0, 3, 2, 5, 6, 1, 4, 3);
        dueFound("found: 2 and below", x, 2, 2, 2, 5, 6);
        dueFound("found: below 2", x, 2, 3, 5, 6);
        for (int k : new int[] {-1, 7, 24, LEAST, GREATEST}) {
            due("found: k " + k, x.found(0, 2, k), -4);
        }
        x.put(5, 0, 0);
        dueFound("found: the false are passed over", x, 0, 2, 0, 2, 6, 1, 4, 3);
        x.move(6, 0, 9);
        dueFound("found: in the new order", x, 0, 2, 0, 2, 1, 4, 3, 6);
        dueFound("found: nothing left below 2", x, 2, 3);
    }

    private static void different() {
        DirectoryTree x = family();
        due("different: none", x.different(0), 0);
        x.put(1, 0, word(1));
        x.put(2, 0, word(1));
        x.put(2, 0, word(2));
        x.put(6, 0, word(2));
        x.put(6, 0, word());
        x.put(6, 1, word(3));
        due("different: with common ones", x.different(0), 3);
        due("different: another attribute", x.different(1), 1);
        x.put(0, 1, word(3));
        due("different: the root's is no new one", x.different(1), 1);
        x.put(0, 1, word(4));
        due("different: the root's own", x.different(1), 2);
        x.drop(2, 0, word(2));
        due("different: another one still has it", x.different(0), 3);
        x.drop(6, 0, word(2));
        due("different: the last one had it", x.different(0), 2);
        x.remove(5);
        due("different: after a removal", x.different(0), 1);
        for (int attribute : new int[] {-1, 6, LEAST, GREATEST}) {
            due("different: attribute " + attribute, x.different(attribute), -2);
        }
        DirectoryTree y = full();
        for (int entry = 0; entry < 24; entry++) {
            for (int v = 0; v < 4; v++) {
                y.put(entry, 5, entry * 4 + v);
            }
        }
        due("different: as many as can be", y.different(5), 96);
    }
}
