import java.util.ArrayList;
import java.util.List;
import java.util.function.Supplier;
import java.util.function.ToIntFunction;

/**
 * The sentences of 'Terms' that bind every call: a refused call changes nothing, the tests of a call
 * are made in the order in which they are named, and questions change nothing.
 */
public final class RefusalsTest extends Checks {
    private static final int LOOKS = 14;

    public static void main(String[] args) {
        changesNothing();
        testsInOrder();
        sentence("an entry that there is not: tested first", RefusalsTest::entryTestedFirst);
        sentence("questions; they change nothing", RefusalsTest::questionsChangeNothing);
        end();
    }

    private static void changesNothing() {
        sentence("a refused make changes nothing", RefusalsTest::refusedMakes);
        sentence("a refused remove changes nothing", RefusalsTest::refusedRemoves);
        sentence("a refused move changes nothing", RefusalsTest::refusedMoves);
        sentence("a refused put changes nothing", RefusalsTest::refusedPuts);
        sentence("a refused drop changes nothing", RefusalsTest::refusedDrops);
        sentence("a refused allow changes nothing", RefusalsTest::refusedAllows);
        sentence("a refused token changes nothing", RefusalsTest::refusedTokens);
        sentence("a refused question changes nothing", RefusalsTest::refusedQuestions);
    }

    private static void testsInOrder() {
        sentence("make: its tests in their order", RefusalsTest::makeInOrder);
        sentence("move: its tests in their order", RefusalsTest::moveInOrder);
        sentence("put: its tests in their order", RefusalsTest::putInOrder);
        sentence("drop: its tests in their order", RefusalsTest::dropInOrder);
        sentence("allow: its tests in their order", RefusalsTest::allowInOrder);
        sentence("token: its tests in their order", RefusalsTest::tokenInOrder);
        sentence("child, valueAt, test: their tests in their order", RefusalsTest::questionsInOrder);
        sentence("count, found: their tests in their order", RefusalsTest::searchesInOrder);
    }

    /** A family with values, with classes that do not allow all, and with three filters of five tokens. */
    private static DirectoryTree busy() {
        DirectoryTree x = family();
        putValues(x, 0, 0, word(1), word(2));
        putValues(x, 1, 1, word(1), word(2), word(3), word(4));
        putValues(x, 2, 0, word(), word(1, 2, 3));
        putValues(x, 4, 4, -999, 0, 999);
        putValues(x, 6, 5, 7);
        x.allow(2, 0b001010);
        x.allow(3, 0b011000);
        x.token(PRESENT, 4, 0);
        x.token(BEGINS, 0, word(1));
        x.token(NOT, 0, 0);
        x.token(EQUAL, 1, word(4));
        x.token(NOT, 0, 0);
        return x;
    }

    /** All 24 entries and six filters, with room for fourteen tokens more. */
    private static DirectoryTree crowded() {
        DirectoryTree x = full();
        putValues(x, 23, 5, 1, 2, 3, 4);
        putValues(x, 1, 0, word(1), word(1, 1));
        for (int attribute = 0; attribute <= 5; attribute++) {
            x.token(PRESENT, attribute, 0);
        }
        return x;
    }

    /** As busy(), with no room for another token. */
    private static DirectoryTree spent() {
        DirectoryTree x = busy();
        putTokens(x, NOT, 15);
        return x;
    }

    private static DirectoryTree withoutFilters() {
        DirectoryTree x = busy();
        x.clear();
        return x;
    }

    /** Asks a call of an object, and finds by every look that it is as one that was not asked. */
    private static void unchanged(Supplier<DirectoryTree> start, int want, ToIntFunction<DirectoryTree> call) {
        for (int look = 0; look < LOOKS; look++) {
            DirectoryTree asked = start.get();
            due("the call", call.applyAsInt(asked), want);
            List<Integer> seen = look(asked, look);
            List<Integer> due = look(start.get(), look);
            hold("after the answer " + want + " look " + look + " sees " + seen + ", due is " + due, seen.equals(due));
        }
    }

    /** No single look can see all that an object holds within its 512 calls. */
    private static List<Integer> look(DirectoryTree x, int look) {
        List<Integer> seen = new ArrayList<>();
        switch (look) {
            case 6: lookAtTree(x, seen); break;
            case 7: lookAtFilters(x, AND, seen); break;
            case 8: lookAtFilters(x, OR, seen); break;
            case 9: lookAtTokens(x, seen); break;
            case 10: lookAtAllowed(x, seen); break;
            case 11: lookAtClasses(x, seen); break;
            case 12: lookAtFreeNumbers(x, seen); break;
            case 13: lookAtScopes(x, seen); break;
            default: lookAtValues(x, look, seen);
        }
        return seen;
    }

    private static void lookAtValues(DirectoryTree x, int attribute, List<Integer> seen) {
        for (int entry = 0; entry < 24; entry++) {
            for (int k = 0; k <= 4; k++) {
                seen.add(x.valueAt(entry, attribute, k));
            }
        }
        seen.add(x.different(attribute));
    }

    private static void lookAtTree(DirectoryTree x, List<Integer> seen) {
        seen.add(x.entries());
        for (int k = 0; k <= 24; k++) {
            seen.add(x.entryAt(k));
        }
        for (int entry = 0; entry < 24; entry++) {
            for (int name = 0; name <= 9; name++) {
                seen.add(x.child(entry, name));
            }
        }
    }

    private static void lookAtFilters(DirectoryTree x, int kind, List<Integer> seen) {
        for (int filter = 0; filter < 6; filter++) {
            for (int entry = 0; entry < 24; entry++) {
                seen.add(x.test(entry));
            }
            seen.add(x.token(kind, 0, 0));
        }
    }

    private static void lookAtTokens(DirectoryTree x, List<Integer> seen) {
        for (int round = 0; round < 2; round++) {
            for (int put = 0; put <= 20; put++) {
                seen.add(x.token(NOT, 0, 0));
            }
            seen.add(x.clear());
            seen.add(x.token(PRESENT, 0, 0));
        }
    }

    private static void lookAtAllowed(DirectoryTree x, List<Integer> seen) {
        for (int kind = 0; kind <= 3; kind++) {
            seen.add(x.allow(kind, 63));
        }
    }

    /** No entry of the objects looked at has values for 2, so every class may come not to allow it. */
    private static void lookAtClasses(DirectoryTree x, List<Integer> seen) {
        x.clear();
        x.token(PRESENT, 2, 0);
        for (int kind = 0; kind <= 3; kind++) {
            x.allow(kind, 63);
        }
        for (int kind = 0; kind <= 3; kind++) {
            x.allow(kind, 59);
            for (int entry = 0; entry < 24; entry++) {
                seen.add(x.test(entry));
            }
        }
    }

    private static void lookAtFreeNumbers(DirectoryTree x, List<Integer> seen) {
        for (int entry = 0; entry < 24; entry++) {
            seen.add(x.make(entry, 4, 0));
        }
        for (int k = 0; k <= 24; k++) {
            seen.add(x.entryAt(k));
        }
    }

    private static void lookAtScopes(DirectoryTree x, List<Integer> seen) {
        for (int entry = 0; entry < 24; entry++) {
            for (int scope = 0; scope <= 3; scope++) {
                seen.add(x.count(entry, scope));
                seen.add(x.found(entry, scope, 1));
            }
        }
    }

    private static void refusedMakes() {
        unchanged(RefusalsTest::busy, -1, x -> x.make(7, 1, 1));
        unchanged(RefusalsTest::busy, -2, x -> x.make(0, 10, 1));
        unchanged(RefusalsTest::busy, -2, x -> x.make(6, -1, 1));
        unchanged(RefusalsTest::busy, -3, x -> x.make(0, 7, 3));
        unchanged(RefusalsTest::busy, -4, x -> x.make(0, 1, 4));
        unchanged(RefusalsTest::crowded, -5, x -> x.make(23, 1, 1));
    }

    private static void refusedRemoves() {
        unchanged(RefusalsTest::busy, -1, x -> x.remove(7));
        unchanged(RefusalsTest::busy, -1, x -> x.remove(-1));
        unchanged(RefusalsTest::busy, -2, x -> x.remove(0));
        unchanged(RefusalsTest::crowded, -2, x -> x.remove(0));
    }

    private static void refusedMoves() {
        unchanged(RefusalsTest::busy, -1, x -> x.move(7, 0, 1));
        unchanged(RefusalsTest::busy, -1, x -> x.move(6, 7, 1));
        unchanged(RefusalsTest::busy, -2, x -> x.move(0, 6, 1));
        unchanged(RefusalsTest::busy, -2, x -> x.move(5, 5, 1));
        unchanged(RefusalsTest::busy, -2, x -> x.move(2, 6, 1));
        unchanged(RefusalsTest::busy, -3, x -> x.move(6, 0, 10));
        unchanged(RefusalsTest::busy, -4, x -> x.move(6, 0, 3));
        unchanged(RefusalsTest::crowded, -4, x -> x.move(23, 1, 9));
    }

    private static void refusedPuts() {
        unchanged(RefusalsTest::busy, -1, x -> x.put(7, 0, 0));
        unchanged(RefusalsTest::busy, -2, x -> x.put(1, 6, 0));
        unchanged(RefusalsTest::busy, -2, x -> x.put(1, -1, 0));
        unchanged(RefusalsTest::busy, -2, x -> x.put(1, 0, 6));
        unchanged(RefusalsTest::busy, -2, x -> x.put(4, 4, 1000));
        unchanged(RefusalsTest::busy, -3, x -> x.put(3, 0, 0));
        unchanged(RefusalsTest::busy, -4, x -> x.put(0, 0, word(1)));
        unchanged(RefusalsTest::busy, -5, x -> x.put(1, 1, word(1, 1)));
        unchanged(RefusalsTest::crowded, -5, x -> x.put(23, 5, 0));
    }

    private static void refusedDrops() {
        unchanged(RefusalsTest::busy, -1, x -> x.drop(7, 0, 0));
        unchanged(RefusalsTest::busy, -2, x -> x.drop(0, 6, word(1)));
        unchanged(RefusalsTest::busy, -2, x -> x.drop(1, -1, 0));
        unchanged(RefusalsTest::busy, -3, x -> x.drop(0, 0, word(3)));
        unchanged(RefusalsTest::busy, -3, x -> x.drop(4, 4, 1));
        unchanged(RefusalsTest::busy, -3, x -> x.drop(3, 0, 0));
    }

    private static void refusedAllows() {
        unchanged(RefusalsTest::busy, -2, x -> x.allow(4, 0));
        unchanged(RefusalsTest::busy, -2, x -> x.allow(-1, 0));
        unchanged(RefusalsTest::busy, -2, x -> x.allow(2, 64));
        unchanged(RefusalsTest::busy, -2, x -> x.allow(2, -1));
        unchanged(RefusalsTest::busy, -3, x -> x.allow(0, 62));
        unchanged(RefusalsTest::busy, -3, x -> x.allow(3, 0));
    }

    private static void refusedTokens() {
        unchanged(RefusalsTest::busy, -1, x -> x.token(8, 0, 0));
        unchanged(RefusalsTest::busy, -1, x -> x.token(-1, 0, 0));
        unchanged(RefusalsTest::busy, -1, x -> x.token(EQUAL, 6, 0));
        unchanged(RefusalsTest::spent, -2, x -> x.token(NOT, 0, 0));
        unchanged(RefusalsTest::spent, -2, x -> x.token(PRESENT, 0, 0));
        unchanged(RefusalsTest::spent, -2, x -> x.token(AND, 0, 0));
        unchanged(RefusalsTest::withoutFilters, -3, x -> x.token(NOT, 0, 0));
        unchanged(RefusalsTest::withoutFilters, -3, x -> x.token(OR, 0, 0));
        unchanged(RefusalsTest::crowded, -4, x -> x.token(PRESENT, 0, 0));
        unchanged(RefusalsTest::crowded, -4, x -> x.token(EQUAL, 0, 0));
        unchanged(RefusalsTest::crowded, -4, x -> x.token(CONTAINS, 5, 0));
    }

    private static void refusedQuestions() {
        unchanged(RefusalsTest::busy, -2, x -> x.entryAt(7));
        unchanged(RefusalsTest::busy, -1, x -> x.child(7, 0));
        unchanged(RefusalsTest::busy, -2, x -> x.child(0, 10));
        unchanged(RefusalsTest::busy, -1000, x -> x.valueAt(7, 0, 0));
        unchanged(RefusalsTest::busy, -1001, x -> x.valueAt(0, 6, 0));
        unchanged(RefusalsTest::busy, -1001, x -> x.valueAt(0, 0, 2));
        unchanged(RefusalsTest::busy, -1, x -> x.test(7));
        unchanged(RefusalsTest::withoutFilters, -2, x -> x.test(0));
        unchanged(RefusalsTest::busy, -1, x -> x.count(7, 0));
        unchanged(RefusalsTest::busy, -2, x -> x.count(0, 4));
        unchanged(RefusalsTest::withoutFilters, -3, x -> x.count(0, 0));
        unchanged(RefusalsTest::busy, -1, x -> x.found(7, 0, 0));
        unchanged(RefusalsTest::busy, -2, x -> x.found(0, 4, 0));
        unchanged(RefusalsTest::withoutFilters, -3, x -> x.found(0, 0, 0));
        unchanged(RefusalsTest::busy, -4, x -> x.found(0, 2, 24));
        unchanged(RefusalsTest::busy, -2, x -> x.different(6));
    }

    private static void questionsChangeNothing() {
        unchanged(RefusalsTest::busy, 7, x -> x.entries());
        unchanged(RefusalsTest::busy, 3, x -> x.entryAt(6));
        unchanged(RefusalsTest::busy, 4, x -> x.child(1, 0));
        unchanged(RefusalsTest::busy, 999, x -> x.valueAt(4, 4, 2));
        unchanged(RefusalsTest::busy, 0, x -> x.test(1));
        unchanged(RefusalsTest::busy, 1, x -> x.test(0));
        unchanged(RefusalsTest::busy, 2, x -> x.test(4));
        unchanged(RefusalsTest::busy, 5, x -> x.count(0, 2));
        unchanged(RefusalsTest::busy, 3, x -> x.found(0, 2, 4));
        unchanged(RefusalsTest::busy, 4, x -> x.different(0));
        unchanged(RefusalsTest::crowded, 24, x -> x.entries());
        unchanged(RefusalsTest::crowded, 1, x -> x.count(0, 2));
        unchanged(RefusalsTest::crowded, 23, x -> x.found(0, 2, 0));
    }

    private static void makeInOrder() {
        DirectoryTree x = full();
        due("-1 before -2", x.make(24, 10, 0), -1);
        due("-1 before -4", x.make(24, 0, 4), -1);
        due("-1 before -5", x.make(24, 0, 0), -1);
        due("-2 before -4", x.make(0, 10, 4), -2);
        due("-2 before -5", x.make(0, 10, 0), -2);
        due("-3 before -4", x.make(0, 0, 4), -3);
        due("-3 before -5", x.make(0, 0, 0), -3);
        due("-4 before -5", x.make(23, 0, 4), -4);
    }

    private static void moveInOrder() {
        DirectoryTree x = family();
        due("-1 of the entry before -2", x.move(7, 7, 0), -1);
        due("-1 of the entry before -3", x.move(7, 0, 10), -1);
        due("-1 of the entry before -4", x.move(7, 0, 3), -1);
        due("-1 of the parent before -2", x.move(0, 7, 1), -1);
        due("-1 of the parent before -3", x.move(1, 7, 10), -1);
        due("-2 of the root before -3", x.move(0, 1, 10), -2);
        due("-2 of the root before -4", x.move(0, 1, 0), -2);
        due("-2 of the entry itself before -3", x.move(1, 1, -1), -2);
        due("-2 of the entry itself before -4", x.move(1, 1, 9), -2);
        due("-2 of one below before -3", x.move(2, 5, 10), -2);
        due("-2 of one below before -4", x.move(2, 5, 5), -2);
    }

    private static void putInOrder() {
        DirectoryTree x = new DirectoryTree();
        putValues(x, 0, 1, 1, 2, 3, 4);
        x.allow(0, 0b000010);
        due("-1 before -2 of the attribute", x.put(1, 6, 0), -1);
        due("-1 before -2 of the value", x.put(1, 1, 6), -1);
        due("-1 before the rest", x.put(1, 1, 1), -1);
        due("-2 of a word before -3", x.put(0, 0, 6), -2);
        due("-2 of a number before -3", x.put(0, 5, 1000), -2);
        due("-2 before -5", x.put(0, 1, 6), -2);
        due("-4 before -5", x.put(0, 1, 4), -4);
    }

    private static void dropInOrder() {
        DirectoryTree x = new DirectoryTree();
        x.put(0, 0, 0);
        due("-1 before -2", x.drop(1, 6, 0), -1);
        due("-1 before -3", x.drop(1, 0, 1), -1);
        due("-2 before -3", x.drop(0, 6, 1), -2);
    }

    private static void allowInOrder() {
        DirectoryTree x = new DirectoryTree();
        x.put(0, 0, 0);
        for (int allowed : new int[] {64, 128, -2, -64, LEAST}) {
            due("-2 before -3 with " + allowed, x.allow(0, allowed), -2);
        }
        due("-3 else", x.allow(0, 0), -3);
    }

    private static void tokenInOrder() {
        DirectoryTree x = new DirectoryTree();
        due("-1 before -3", x.token(8, 0, 0), -1);
        putTokens(x, PRESENT, 6);
        due("-1 before -4", x.token(PRESENT, 6, 0), -1);
        putTokens(x, NOT, 14);
        due("-1 of the kind before -2", x.token(8, 0, 0), -1);
        due("-1 of the attribute before -2 and -4", x.token(PRESENT, 6, 0), -1);
        due("-2 before -4", x.token(PRESENT, 0, 0), -2);
        DirectoryTree y = new DirectoryTree();
        y.token(PRESENT, 0, 0);
        putTokens(y, NOT, 19);
        due("-2 before -3", y.token(AND, 0, 0), -2);
    }

    private static void questionsInOrder() {
        DirectoryTree x = new DirectoryTree();
        due("child: -1 before -2", x.child(1, 10), -1);
        due("valueAt: -1000 before -1001 of the attribute", x.valueAt(1, 6, 0), -1000);
        due("valueAt: -1000 before -1001 of the place", x.valueAt(1, 0, -1), -1000);
        due("test: -1 before -2", x.test(1), -1);
    }

    private static void searchesInOrder() {
        DirectoryTree x = new DirectoryTree();
        for (int filters = 0; filters <= 1; filters++) {
            due("count: -1 before -2", x.count(1, 4), -1);
            due("found: -1 before -2", x.found(1, 4, 0), -1);
            due("found: -1 before -4", x.found(1, 0, -1), -1);
            due("count: -2 before -3", x.count(0, 4), -2);
            due("found: -2 before -3", x.found(0, 4, 0), -2);
            due("found: -2 before -4", x.found(0, 4, -1), -2);
            x.token(PRESENT, 0, 0);
        }
        x.clear();
        due("count: -1 before -3", x.count(1, 0), -1);
        due("found: -1 before -3", x.found(1, 0, 0), -1);
        due("found: -3 before -4", x.found(0, 0, -1), -3);
    }

    private static void entryTestedFirst() {
        DirectoryTree x = family();
        x.remove(5);
        for (int entry : new int[] {-1, 5, 6, 7, 23, 24, LEAST, GREATEST}) {
            due("make", x.make(entry, 10, 4), -1);
            due("remove", x.remove(entry), -1);
            due("move", x.move(entry, entry, 10), -1);
            due("move to", x.move(0, entry, 10), -1);
            due("put", x.put(entry, 6, 1000), -1);
            due("drop", x.drop(entry, 6, 1000), -1);
            due("child", x.child(entry, 10), -1);
            due("valueAt", x.valueAt(entry, 6, -1), -1000);
            due("test", x.test(entry), -1);
            due("count", x.count(entry, 4), -1);
            due("found", x.found(entry, 4, -1), -1);
        }
    }
}
