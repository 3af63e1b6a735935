/**
 * A queue of changes that land one after the other, in groups that are tried on top of what has
 * landed and of the groups in front. README.md says how it is used.
 */
public final class MergeQueue {
    public static final int NONE = -1;

    private static final int MOST_CHANGES = 40;
    private static final int GREATEST_RANK = 9;
    private static final int REFUSED = -1;

    private static final int WAITS = 0;
    private static final int IN_GROUP = 1;
    private static final int IN_TREE = 2;
    private static final int OUT = 3;

    private static final int NOT_OUT = 0;
    private static final int FAILS = 1;
    private static final int CLASHES = 2;
    private static final int LEFT = 3;

    private static final int NEW = 0;
    private static final int ASKED = 1;
    private static final int FAILED = 2;
    private static final int PASSED = 3;

    private static final int NO_STEP = 0;
    private static final int LANDING = 1;
    private static final int HALVING = 2;
    private static final int ASKING = 3;
    private static final int FORMING = 4;

    private final int most;
    private final int width;
    private final int again;
    private final Changes changes = new Changes();
    private final Row queue = new Row();
    private final Row tree = new Row();
    private final Groups formed = new Groups();
    private boolean paused;
    private int answers;
    private int halvings;

    public MergeQueue(int most, int width, int again) {
        this.most = nearest(most, 8);
        this.width = nearest(width, 4);
        this.again = nearest(again, 3);
    }

    private static int nearest(int value, int greatest) {
        return Math.max(1, Math.min(value, greatest));
    }

    public int change(int rank, int parts) {
        if (rank < 0 || rank > GREATEST_RANK || changes.count() >= MOST_CHANGES) {
            return NONE;
        }
        int number = changes.add(rank, parts);
        enqueue(number);
        return number;
    }

    public int conflict(int a, int b) {
        if (a == b || !mayConflict(a, b)) {
            return REFUSED;
        }
        if (changes.areInConflict(a, b)) {
            return 0;
        }
        changes.putInConflict(a, b);
        sendOutClashing();
        return 1;
    }

    public boolean jump(int change) {
        if (changes.placeOf(change) != WAITS || changes.hasJumped(change)) {
            return false;
        }
        dequeue(change);
        changes.giveTurn(change);
        enqueue(change);
        return true;
    }

    public boolean leave(int change) {
        int place = changes.placeOf(change);
        if (place == WAITS) {
            dequeue(change);
        } else if (place == IN_GROUP) {
            formed.takeOut(change);
        } else {
            return false;
        }
        changes.putOut(change, LEFT);
        return true;
    }

    public boolean pause(boolean on) {
        if (paused == on) {
            return false;
        }
        paused = on;
        return true;
    }

    public int step() {
        int first = formed.stateOf(0);
        if (first == PASSED) {
            land();
            return LANDING;
        }
        if (first == FAILED) {
            halve();
            return HALVING;
        }
        if (paused) {
            return NO_STEP;
        }
        if (askNext()) {
            return ASKING;
        }
        return formNext() ? FORMING : NO_STEP;
    }

    public int answer(int group, boolean passes) {
        if (formed.stateOf(group) != ASKED) {
            return REFUSED;
        }
        answers++;
        if (passes) {
            formed.putState(group, PASSED);
        } else {
            formed.addFailure(group, again);
        }
        return formed.stateOf(group);
    }

    public int groups() {
        return formed.count();
    }

    public int group(int i, int what) {
        switch (what) {
            case 0:
                return formed.stateOf(i);
            case 1:
                return formed.sizeOf(i);
            case 2:
                return formed.failuresOf(i);
            case 3:
                return formed.baseOf(i);
            default:
                return NONE;
        }
    }

    public int member(int group, int k) {
        return formed.memberAt(group, k);
    }

    public int waiting(int k) {
        return queue.at(k);
    }

    public int landed(int k) {
        return tree.at(k);
    }

    public int where(int change) {
        return changes.placeOf(change);
    }

    public int why(int change) {
        return changes.reasonOf(change);
    }

    public int by(int change) {
        switch (changes.reasonOf(change)) {
            case FAILS:
                return changes.treeSizeOf(change);
            case CLASHES:
                return firstClashInTree(change);
            default:
                return NONE;
        }
    }

    public int counted(int what) {
        switch (what) {
            case 0:
                return answers;
            case 1:
                return halvings;
            case 2:
                return formed.countAskedInVain();
            case 3:
                return partsOfTree();
            default:
                return NONE;
        }
    }

    private void enqueue(int change) {
        int k = 0;
        while (k < queue.count() && changes.isInFront(queue.at(k), change)) {
            k++;
        }
        queue.insert(k, change);
    }

    private void dequeue(int change) {
        queue.removeAt(queue.find(change));
    }

    private boolean mayConflict(int a, int b) {
        int placeOfA = changes.placeOf(a);
        int placeOfB = changes.placeOf(b);
        return placeOfA == WAITS && (placeOfB == WAITS || placeOfB == IN_TREE)
            || placeOfA == IN_TREE && placeOfB == WAITS;
    }

    private void land() {
        int size = formed.sizeOf(0);
        for (int k = 0; k < size; k++) {
            int change = formed.memberAt(0, k);
            changes.putPlace(change, IN_TREE);
            tree.append(change);
        }
        formed.removeFirst();
        sendOutClashing();
    }

    // Backwards, since each removal moves those behind it.
    private void sendOutClashing() {
        for (int k = queue.count() - 1; k >= 0; k--) {
            int change = queue.at(k);
            if (firstClashInTree(change) != NONE) {
                queue.removeAt(k);
                changes.putOut(change, CLASHES);
            }
        }
    }

    private int firstClashInTree(int change) {
        for (int k = 0; k < tree.count(); k++) {
            if (changes.areInConflict(change, tree.at(k))) {
                return tree.at(k);
            }
        }
        return NONE;
    }

    private void halve() {
        if (formed.sizeOf(0) > 1) {
            formed.splitFirst();
            halvings++;
            return;
        }
        int change = formed.memberAt(0, 0);
        formed.takeOut(change);
        changes.putOut(change, FAILS);
        changes.putTreeSize(change, tree.count());
    }

    private boolean askNext() {
        int group = formed.nextToAsk();
        if (group == NONE || formed.countAsked() >= width) {
            return false;
        }
        formed.putState(group, ASKED);
        return true;
    }

    private boolean formNext() {
        if (formed.count() >= width) {
            return false;
        }
        int size = 0;
        for (int k = 0; k < queue.count() && size < most; k++) {
            int change = queue.at(k);
            if (!clashesWithGroups(change)) {
                formed.appendToLine(change);
                changes.putPlace(change, IN_GROUP);
                size++;
            }
        }
        if (size == 0) {
            return false;
        }
        formed.closeLast(size);
        dropGroupedFromQueue();
        return true;
    }

    private boolean clashesWithGroups(int change) {
        for (int k = 0; k < formed.lineLength(); k++) {
            if (changes.areInConflict(change, formed.inLine(k))) {
                return true;
            }
        }
        return false;
    }

    private void dropGroupedFromQueue() {
        for (int k = queue.count() - 1; k >= 0; k--) {
            if (changes.placeOf(queue.at(k)) == IN_GROUP) {
                queue.removeAt(k);
            }
        }
    }

    private int partsOfTree() {
        int parts = 0;
        for (int k = 0; k < tree.count(); k++) {
            parts |= changes.partsOf(tree.at(k));
        }
        return parts;
    }

    /** A row of numbers, as many as there may be changes; a place it doesn't have answers NONE. */
    private static final class Row {
        private final int[] items = new int[MOST_CHANGES];
        private int count;

        int count() {
            return count;
        }

        boolean has(int k) {
            return k >= 0 && k < count && k < items.length;
        }

        int at(int k) {
            return has(k) ? items[k] : NONE;
        }

        int find(int item) {
            for (int k = 0; k < count; k++) {
                if (at(k) == item) {
                    return k;
                }
            }
            return NONE;
        }

        void put(int k, int item) {
            if (has(k)) {
                items[k] = item;
            }
        }

        void append(int item) {
            insert(count, item);
        }

        void insert(int k, int item) {
            if (k < 0 || k > count || count >= items.length) {
                return;
            }
            System.arraycopy(items, k, items, k + 1, count - k);
            items[k] = item;
            count++;
        }

        void removeAt(int k) {
            if (!has(k)) {
                return;
            }
            System.arraycopy(items, k + 1, items, k, count - k - 1);
            count--;
        }
    }

    /** What is known of each change, by its number. */
    private static final class Changes {
        // Each change is given one turn at most, from 0: so those that haven't jumped come last.
        private static final int NO_TURN = MOST_CHANGES;

        private final Row ranks = new Row();
        private final Row parts = new Row();
        private final Row places = new Row();
        private final Row reasons = new Row();
        private final Row turns = new Row();
        private final Row treeSizes = new Row();
        private final long[] conflicts = new long[MOST_CHANGES];
        private int turnsGiven;

        int count() {
            return places.count();
        }

        int add(int rank, int itsParts) {
            int number = count();
            ranks.append(rank);
            parts.append(itsParts);
            places.append(WAITS);
            reasons.append(NOT_OUT);
            turns.append(NO_TURN);
            treeSizes.append(0);
            return number;
        }

        int partsOf(int change) {
            return parts.at(change);
        }

        int placeOf(int change) {
            return places.at(change);
        }

        void putPlace(int change, int place) {
            places.put(change, place);
        }

        int reasonOf(int change) {
            return reasons.at(change);
        }

        void putOut(int change, int reason) {
            places.put(change, OUT);
            reasons.put(change, reason);
        }

        int treeSizeOf(int change) {
            return treeSizes.at(change);
        }

        void putTreeSize(int change, int size) {
            treeSizes.put(change, size);
        }

        boolean hasJumped(int change) {
            return turns.at(change) != NO_TURN;
        }

        void giveTurn(int change) {
            turns.put(change, turnsGiven);
            turnsGiven++;
        }

        boolean isInFront(int a, int b) {
            if (turns.at(a) != turns.at(b)) {
                return turns.at(a) < turns.at(b);
            }
            if (ranks.at(a) != ranks.at(b)) {
                return ranks.at(a) > ranks.at(b);
            }
            return a < b;
        }

        boolean areInConflict(int a, int b) {
            return isNumber(a) && isNumber(b) && (conflicts[a] & 1L << b) != 0;
        }

        void putInConflict(int a, int b) {
            if (isNumber(a) && isNumber(b)) {
                conflicts[a] |= 1L << b;
                conflicts[b] |= 1L << a;
            }
        }

        private boolean isNumber(int change) {
            return change >= 0 && change < conflicts.length;
        }
    }

    /**
     * The groups in their row. The changes of all of them stand in one line, and each group is a
     * stretch of it: so its base is as long as the line in front of it, and halving moves no change.
     */
    private static final class Groups {
        private final Row line = new Row();
        private final Row sizes = new Row();
        private final Row states = new Row();
        private final Row failures = new Row();
        private int askedInVain;

        int count() {
            return states.count();
        }

        int lineLength() {
            return line.count();
        }

        int inLine(int k) {
            return line.at(k);
        }

        int stateOf(int group) {
            return states.at(group);
        }

        void putState(int group, int state) {
            states.put(group, state);
        }

        int sizeOf(int group) {
            return sizes.at(group);
        }

        int failuresOf(int group) {
            return failures.at(group);
        }

        int baseOf(int group) {
            if (!states.has(group)) {
                return NONE;
            }
            int base = 0;
            for (int g = 0; g < group; g++) {
                base += sizes.at(g);
            }
            return base;
        }

        int memberAt(int group, int k) {
            return k >= 0 && k < sizes.at(group) ? line.at(baseOf(group) + k) : NONE;
        }

        int countAskedInVain() {
            return askedInVain;
        }

        int countAsked() {
            int asked = 0;
            for (int g = 0; g < count(); g++) {
                if (states.at(g) == ASKED) {
                    asked++;
                }
            }
            return asked;
        }

        int nextToAsk() {
            for (int g = 0; g < count(); g++) {
                if (states.at(g) == NEW) {
                    return g;
                }
                if (states.at(g) == FAILED) {
                    return NONE;
                }
            }
            return NONE;
        }

        void addFailure(int group, int again) {
            failures.put(group, failures.at(group) + 1);
            if (failures.at(group) >= again) {
                states.put(group, FAILED);
            }
        }

        void appendToLine(int change) {
            line.append(change);
        }

        /** Makes a group of the last changes of the line, which are in none yet. */
        void closeLast(int size) {
            insertGroup(count(), size);
        }

        void removeFirst() {
            int size = sizes.at(0);
            for (int k = 0; k < size; k++) {
                line.removeAt(0);
            }
            removeGroup(0);
        }

        void splitFirst() {
            int size = sizes.at(0);
            int others = size / 2;
            sizes.put(0, size - others);
            insertGroup(1, others);
            beginAnewFrom(0);
        }

        /** An empty group goes only after it has begun anew: it counts as asked in vain, too. */
        void takeOut(int change) {
            int k = line.find(change);
            if (k == NONE) {
                return;
            }
            int group = groupOfLine(k);
            beginAnewFrom(group);
            line.removeAt(k);
            sizes.put(group, sizes.at(group) - 1);
            if (sizes.at(group) == 0) {
                removeGroup(group);
            }
        }

        private int groupOfLine(int k) {
            int end = 0;
            for (int g = 0; g < count(); g++) {
                end += sizes.at(g);
                if (k < end) {
                    return g;
                }
            }
            return count();
        }

        private void beginAnewFrom(int first) {
            for (int g = first; g < count(); g++) {
                if (states.at(g) == ASKED) {
                    askedInVain++;
                }
                states.put(g, NEW);
                failures.put(g, 0);
            }
        }

        private void insertGroup(int group, int size) {
            sizes.insert(group, size);
            states.insert(group, NEW);
            failures.insert(group, 0);
        }

        private void removeGroup(int group) {
            sizes.removeAt(group);
            states.removeAt(group);
            failures.removeAt(group);
        }
    }
}
