/**
 * A directory: a tree of named entries with attributes, a rule for each class of entries, and
 * searches by filters that may be true, false or undefined.
 */
public final class DirectoryTree {
    private static final int ENTRIES = 24;
    private static final int ROOT = 0;
    private static final int NAMES = 10;
    private static final int CLASSES = 4;
    private static final int SCOPES = 4;
    private static final int NONE = -1;

    private static final int ATTRIBUTES = 6;
    private static final int WORD_ATTRIBUTES = 4;
    private static final int ALL_ATTRIBUTES = 63;
    private static final int MOST_VALUES = 4;
    private static final int VALUE_SETS = ENTRIES * ATTRIBUTES;
    private static final int VALUE_PLACES = VALUE_SETS * MOST_VALUES;

    private static final int GREATEST_NUMBER = 999;
    private static final int WORD_LIMIT = 216;

    private static final int MOST_TOKENS = 20;
    private static final int MOST_FILTERS = 6;
    private static final int TOKEN_KINDS = 8;
    private static final int PRESENT = 0;
    private static final int EQUAL = 1;
    private static final int ATLEAST = 2;
    private static final int BEGINS = 3;
    private static final int CONTAINS = 4;
    private static final int NOT = 5;
    private static final int AND = 6;

    private static final int FALSE = 0;
    private static final int TRUE = 1;
    private static final int UNDEFINED = 2;

    private final boolean[] taken = new boolean[ENTRIES];
    private final int[] parentOf = new int[ENTRIES];
    private final int[] nameOf = new int[ENTRIES];
    private final int[] classOf = new int[ENTRIES];
    private int entryCount;

    // Kept up to date by every call that changes the tree, so that questions need not change it.
    private final int[] order = new int[ENTRIES];

    private final int[] allowedBy = new int[CLASSES];

    // A set's values stand in rising order. The sets of a free number are empty.
    private final int[] valueCount = new int[VALUE_SETS];
    private final int[] values = new int[VALUE_PLACES];

    // The tokens are kept, not what they come to: that may change with every entry and call.
    // Whether a token's value fits its attribute never changes, so it is settled when it is put.
    private final int[] tokenKind = new int[MOST_TOKENS];
    private final int[] tokenAttribute = new int[MOST_TOKENS];
    private final int[] tokenValue = new int[MOST_TOKENS];
    private final boolean[] tokenFits = new boolean[MOST_TOKENS];
    private int tokenCount;
    private int filterCount;

    public DirectoryTree() {
        taken[ROOT] = true;
        parentOf[ROOT] = NONE;
        entryCount = 1;
        for (int kind = 0; kind < CLASSES; kind++) {
            allowedBy[kind] = ALL_ATTRIBUTES;
        }
    }

    public int make(int parent, int name, int kind) {
        if (!isEntry(parent)) {
            return -1;
        }
        if (!isName(name)) {
            return -2;
        }
        if (entryNamed(parent, name) != NONE) {
            return -3;
        }
        if (!isClass(kind)) {
            return -4;
        }
        int entry = leastFreeNumber();
        if (entry == NONE) {
            return -5;
        }
        taken[entry] = true;
        parentOf[entry] = parent;
        nameOf[entry] = name;
        classOf[entry] = kind;
        entryCount++;
        putInOrder();
        return entry;
    }

    public int remove(int entry) {
        if (!isEntry(entry)) {
            return -1;
        }
        if (entry == ROOT) {
            return -2;
        }
        int gone = 0;
        for (int other = 0; other < ENTRIES; other++) {
            if (taken[other] && isInSubtree(other, entry)) {
                free(other);
                gone++;
            }
        }
        entryCount -= gone;
        putInOrder();
        return gone;
    }

    public int move(int entry, int parent, int name) {
        if (!isEntry(entry) || !isEntry(parent)) {
            return -1;
        }
        if (entry == ROOT || isInSubtree(parent, entry)) {
            return -2;
        }
        if (!isName(name)) {
            return -3;
        }
        int holder = entryNamed(parent, name);
        if (holder != NONE && holder != entry) {
            return -4;
        }
        parentOf[entry] = parent;
        nameOf[entry] = name;
        putInOrder();
        return 1;
    }

    public int put(int entry, int attribute, int v) {
        if (!isEntry(entry)) {
            return -1;
        }
        if (!isAttribute(attribute) || !canBeValue(attribute, v)) {
            return -2;
        }
        if (!isAllowed(entry, attribute)) {
            return -3;
        }
        int set = setOf(entry, attribute);
        if (placeOf(set, v) != NONE) {
            return -4;
        }
        if (valueCount[set] == MOST_VALUES) {
            return -5;
        }
        insertValue(set, attribute, v);
        return valueCount[set];
    }

    public int drop(int entry, int attribute, int v) {
        if (!isEntry(entry)) {
            return -1;
        }
        if (!isAttribute(attribute)) {
            return -2;
        }
        int set = setOf(entry, attribute);
        int place = placeOf(set, v);
        if (place == NONE) {
            return -3;
        }
        deleteValue(set, place);
        return valueCount[set];
    }

    public int allow(int kind, int allowed) {
        if (!isClass(kind) || allowed < 0 || allowed > ALL_ATTRIBUTES) {
            return -2;
        }
        if (hasValueOutside(kind, allowed)) {
            return -3;
        }
        int before = allowedBy[kind];
        allowedBy[kind] = allowed;
        return before;
    }

    public int token(int kind, int attribute, int v) {
        if (kind < 0 || kind >= TOKEN_KINDS || (kind <= CONTAINS && !isAttribute(attribute))) {
            return -1;
        }
        if (tokenCount == MOST_TOKENS) {
            return -2;
        }
        int takes = filtersTaken(kind);
        if (filterCount < takes) {
            return -3;
        }
        if (takes == 0 && filterCount == MOST_FILTERS) {
            return -4;
        }
        tokenKind[tokenCount] = kind;
        tokenAttribute[tokenCount] = attribute;
        tokenValue[tokenCount] = v;
        tokenFits[tokenCount] = canCompare(kind, attribute, v);
        tokenCount++;
        filterCount += 1 - takes;
        return filterCount;
    }

    public int clear() {
        int before = filterCount;
        tokenCount = 0;
        filterCount = 0;
        return before;
    }

    public int entries() {
        return entryCount;
    }

    public int entryAt(int k) {
        if (k < 0 || k >= entryCount) {
            return -2;
        }
        return order[k];
    }

    public int child(int parent, int name) {
        if (!isEntry(parent)) {
            return -1;
        }
        int entry = entryNamed(parent, name);
        return entry == NONE ? -2 : entry;
    }

    public int valueAt(int entry, int attribute, int k) {
        if (!isEntry(entry)) {
            return -1000;
        }
        if (!isAttribute(attribute)) {
            return -1001;
        }
        int set = setOf(entry, attribute);
        if (k < 0 || k >= valueCount[set]) {
            return -1001;
        }
        return values[set * MOST_VALUES + k];
    }

    public int test(int entry) {
        if (!isEntry(entry)) {
            return -1;
        }
        if (filterCount == 0) {
            return -2;
        }
        return topFor(entry);
    }

    public int count(int entry, int scope) {
        int refusal = searchRefusal(entry, scope);
        if (refusal != 0) {
            return refusal;
        }
        int hits = 0;
        for (int k = 0; k < entryCount; k++) {
            if (isInScope(order[k], entry, scope) && topFor(order[k]) == TRUE) {
                hits++;
            }
        }
        return hits;
    }

    public int found(int entry, int scope, int k) {
        int refusal = searchRefusal(entry, scope);
        if (refusal != 0) {
            return refusal;
        }
        int hits = 0;
        for (int at = 0; at < entryCount; at++) {
            if (isInScope(order[at], entry, scope) && topFor(order[at]) == TRUE) {
                if (hits == k) {
                    return order[at];
                }
                hits++;
            }
        }
        return -4;
    }

    public int different(int attribute) {
        if (!isAttribute(attribute)) {
            return -2;
        }
        int distinct = 0;
        for (int entry = 0; entry < ENTRIES; entry++) {
            int set = setOf(entry, attribute);
            for (int place = 0; place < valueCount[set]; place++) {
                if (!isHeldBefore(entry, attribute, values[set * MOST_VALUES + place])) {
                    distinct++;
                }
            }
        }
        return distinct;
    }

    private boolean isEntry(int entry) {
        return entry >= 0 && entry < ENTRIES && taken[entry];
    }

    private static boolean isName(int name) {
        return name >= 0 && name < NAMES;
    }

    private static boolean isClass(int kind) {
        return kind >= 0 && kind < CLASSES;
    }

    private static boolean isAttribute(int attribute) {
        return attribute >= 0 && attribute < ATTRIBUTES;
    }

    private static boolean canBeValue(int attribute, int v) {
        if (attribute < WORD_ATTRIBUTES) {
            return isWord(v);
        }
        return v >= -GREATEST_NUMBER && v <= GREATEST_NUMBER;
    }

    private static boolean isWord(int v) {
        if (v < 0 || v >= WORD_LIMIT) {
            return false;
        }
        boolean startsRight = v % 6 != 0 || v == 0;
        boolean hasNoGap = v / 6 % 6 != 0 || v < 36;
        return startsRight && hasNoGap;
    }

    private int entryNamed(int parent, int name) {
        for (int entry = 1; entry < ENTRIES; entry++) {
            if (taken[entry] && parentOf[entry] == parent && nameOf[entry] == name) {
                return entry;
            }
        }
        return NONE;
    }

    private int leastFreeNumber() {
        for (int entry = 1; entry < ENTRIES; entry++) {
            if (!taken[entry]) {
                return entry;
            }
        }
        return NONE;
    }

    private boolean isInSubtree(int entry, int top) {
        int at = entry;
        for (int steps = 0; steps < ENTRIES && at != NONE; steps++) {
            if (at == top) {
                return true;
            }
            at = parentOf[at];
        }
        return false;
    }

    // Leaves the parent in place: a removal still climbs through entries that it has freed.
    private void free(int entry) {
        taken[entry] = false;
        for (int attribute = 0; attribute < ATTRIBUTES; attribute++) {
            valueCount[setOf(entry, attribute)] = 0;
        }
    }

    // Every entry brings its children in directly behind itself, the greatest name first, so
    // that each one pushes the greater names, and all that comes after them, further back. The
    // last entry in the order has no children.
    private void putInOrder() {
        order[0] = ROOT;
        for (int at = 0; at < entryCount - 1; at++) {
            for (int name = NAMES - 1; name >= 0; name--) {
                int entry = entryNamed(order[at], name);
                if (entry != NONE) {
                    insertInOrder(at + 1, entry);
                }
            }
        }
    }

    private void insertInOrder(int place, int entry) {
        for (int at = ENTRIES - 1; at > place; at--) {
            order[at] = order[at - 1];
        }
        order[place] = entry;
    }

    private boolean isAllowed(int entry, int attribute) {
        return (allowedBy[classOf[entry]] >> attribute & 1) == 1;
    }

    private boolean hasValueOutside(int kind, int allowed) {
        for (int entry = 0; entry < ENTRIES; entry++) {
            for (int attribute = 0; attribute < ATTRIBUTES; attribute++) {
                boolean isOutside = classOf[entry] == kind && (allowed >> attribute & 1) == 0;
                if (isOutside && valueCount[setOf(entry, attribute)] > 0) {
                    return true;
                }
            }
        }
        return false;
    }

    private static int setOf(int entry, int attribute) {
        return entry * ATTRIBUTES + attribute;
    }

    private int placeOf(int set, int v) {
        for (int place = 0; place < valueCount[set]; place++) {
            if (values[set * MOST_VALUES + place] == v) {
                return place;
            }
        }
        return NONE;
    }

    private void insertValue(int set, int attribute, int v) {
        int first = set * MOST_VALUES;
        int rank = rankOf(attribute, v);
        int gap = first + valueCount[set];
        for (; gap > first && rankOf(attribute, values[gap - 1]) > rank; gap--) {
            values[gap] = values[gap - 1];
        }
        values[gap] = v;
        valueCount[set]++;
    }

    private void deleteValue(int set, int place) {
        int first = set * MOST_VALUES;
        valueCount[set]--;
        for (int at = place; at < valueCount[set]; at++) {
            values[first + at] = values[first + at + 1];
        }
    }

    // A word is written with its first letter as the least digit; compared, that one weighs most.
    private static int rankOf(int attribute, int v) {
        if (attribute >= WORD_ATTRIBUTES) {
            return v;
        }
        return v % 6 * 36 + v / 6 % 6 * 6 + v / 36;
    }

    private boolean isHeldBefore(int entry, int attribute, int v) {
        for (int other = 0; other < entry; other++) {
            int set = setOf(other, attribute);
            if (placeOf(set, v) != NONE) {
                return true;
            }
        }
        return false;
    }

    private static int filtersTaken(int kind) {
        if (kind <= CONTAINS) {
            return 0;
        }
        return kind == NOT ? 1 : 2;
    }

    private static boolean canCompare(int kind, int attribute, int v) {
        if (kind == PRESENT) {
            return true;
        }
        if (kind >= BEGINS && attribute >= WORD_ATTRIBUTES) {
            return false;
        }
        return canBeValue(attribute, v);
    }

    private int searchRefusal(int entry, int scope) {
        if (!isEntry(entry)) {
            return -1;
        }
        if (scope < 0 || scope >= SCOPES) {
            return -2;
        }
        return filterCount == 0 ? -3 : 0;
    }

    private boolean isInScope(int candidate, int entry, int scope) {
        switch (scope) {
            case 0:
                return candidate == entry;
            case 1:
                return parentOf[candidate] == entry;
            case 2:
                return isInSubtree(candidate, entry);
            default:
                return candidate != entry && isInSubtree(candidate, entry);
        }
    }

    // The stack is one number, two binary digits for each filter and the top in the lowest ones:
    // a question must change nothing, and an array made at the start would be changed.
    private int topFor(int entry) {
        int stack = 0;
        for (int t = 0; t < tokenCount; t++) {
            int kind = tokenKind[t];
            int top = stack & 3;
            int rest = stack >> 2;
            if (kind <= CONTAINS) {
                stack = stack << 2 | compared(entry, t);
            } else if (kind == NOT) {
                stack = rest << 2 | negated(top);
            } else {
                int next = rest & 3;
                int joined = kind == AND ? both(next, top) : either(next, top);
                stack = rest >> 2 << 2 | joined;
            }
        }
        return stack & 3;
    }

    private static int negated(int f) {
        if (f == UNDEFINED) {
            return UNDEFINED;
        }
        return f == TRUE ? FALSE : TRUE;
    }

    private static int both(int f, int g) {
        if (f == FALSE || g == FALSE) {
            return FALSE;
        }
        return f == TRUE && g == TRUE ? TRUE : UNDEFINED;
    }

    private static int either(int f, int g) {
        if (f == TRUE || g == TRUE) {
            return TRUE;
        }
        return f == FALSE && g == FALSE ? FALSE : UNDEFINED;
    }

    private int compared(int entry, int t) {
        int kind = tokenKind[t];
        int attribute = tokenAttribute[t];
        int v = tokenValue[t];
        if (!tokenFits[t] || !isAllowed(entry, attribute)) {
            return UNDEFINED;
        }
        int set = setOf(entry, attribute);
        for (int place = 0; place < valueCount[set]; place++) {
            if (isMatch(kind, attribute, values[set * MOST_VALUES + place], v)) {
                return TRUE;
            }
        }
        return FALSE;
    }

    private static boolean isMatch(int kind, int attribute, int value, int v) {
        switch (kind) {
            case PRESENT:
                return true;
            case EQUAL:
                return value == v;
            case ATLEAST:
                return rankOf(attribute, value) >= rankOf(attribute, v);
            case BEGINS:
                return beginsWith(value, v);
            default:
                return beginsWith(value, v) || beginsWith(value / 6, v) || beginsWith(value / 36, v);
        }
    }

    // The letters of a word's beginning are its lowest digits, as many as the beginning has.
    private static boolean beginsWith(int word, int beginning) {
        if (beginning == 0) {
            return true;
        }
        int span = beginning < 6 ? 6 : beginning < 36 ? 36 : WORD_LIMIT;
        return word % span == beginning;
    }
}
