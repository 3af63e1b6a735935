import java.util.ArrayList;
import java.util.HashSet;
import java.util.List;
import java.util.Set;

/**
 * The document read a second time, as plainly as the Java library allows: nothing is kept that
 * can be worked out anew, so that it shares no bookkeeping with the class under test.
 */
public final class Model {
    enum State { NEW, ASKED, FAILED, PASSED }

    static final class Item {
        int number;
        int rank;
        int parts;
        int treeThen;
        int why;
        final Set<Item> conflicts = new HashSet<>();
    }

    static final class Batch {
        List<Item> items = new ArrayList<>();
        State state = State.NEW;
        int failures;
    }

    private final int most;
    private final int width;
    private final int again;
    private final List<Item> all = new ArrayList<>();
    private final List<Item> jumped = new ArrayList<>();
    private final List<Item> tree = new ArrayList<>();
    private final List<Batch> row = new ArrayList<>();
    private boolean paused;
    private int answers;
    private int madeTwo;
    private int anew;

    public Model(int most, int width, int again) {
        this.most = most < 1 ? 1 : most > 8 ? 8 : most;
        this.width = width < 1 ? 1 : width > 4 ? 4 : width;
        this.again = again < 1 ? 1 : again > 3 ? 3 : again;
    }

    private Item item(int number) {
        return number < 0 || number >= all.size() ? null : all.get(number);
    }

    private Batch batch(int place) {
        return place < 0 || place >= row.size() ? null : row.get(place);
    }

    private Batch batchOf(Item item) {
        return row.stream().filter(b -> b.items.contains(item)).findFirst().orElse(null);
    }

    private boolean waits(Item item) {
        return item.why == 0 && !tree.contains(item) && batchOf(item) == null;
    }

    private List<Item> order() {
        List<Item> order = new ArrayList<>(jumped);
        for (int rank = 9; rank >= 0; rank--) {
            for (Item i : all) {
                if (i.rank == rank && !jumped.contains(i)) {
                    order.add(i);
                }
            }
        }
        order.removeIf(i -> !waits(i));
        return order;
    }

    private static boolean conflictsWithAny(Item item, List<Item> others) {
        return others.stream().anyMatch(item.conflicts::contains);
    }

    private List<Item> inBatches() {
        List<Item> items = new ArrayList<>();
        row.forEach(b -> items.addAll(b.items));
        return items;
    }

    private void beginAnew(int from) {
        for (Batch b : row.subList(from, row.size())) {
            anew += b.state == State.ASKED ? 1 : 0;
            b.state = State.NEW;
            b.failures = 0;
        }
    }

    public int change(int rank, int parts) {
        if (all.size() == 40 || rank < 0 || rank > 9) {
            return -1;
        }
        Item i = new Item();
        i.number = all.size();
        i.rank = rank;
        i.parts = parts;
        all.add(i);
        return i.number;
    }

    public int conflict(int a, int b) {
        Item one = item(a);
        Item other = item(b);
        if (one == null || other == null || one == other) {
            return -1;
        }
        if (batchOf(one) != null || batchOf(other) != null || one.why != 0 || other.why != 0) {
            return -1;
        }
        if (tree.contains(one) && tree.contains(other)) {
            return -1;
        }
        if (one.conflicts.contains(other)) {
            return 0;
        }
        one.conflicts.add(other);
        other.conflicts.add(one);
        if (tree.contains(one)) {
            other.why = 2;
        }
        if (tree.contains(other)) {
            one.why = 2;
        }
        return 1;
    }

    public boolean jump(int change) {
        Item i = item(change);
        if (i == null || !waits(i) || jumped.contains(i)) {
            return false;
        }
        return jumped.add(i);
    }

    public boolean leave(int change) {
        Item i = item(change);
        if (i == null || i.why != 0 || tree.contains(i)) {
            return false;
        }
        Batch b = batchOf(i);
        i.why = 3;
        if (b != null) {
            beginAnew(row.indexOf(b));
            b.items.remove(i);
            row.removeIf(x -> x.items.isEmpty());
        }
        return true;
    }

    public boolean pause(boolean on) {
        boolean other = paused != on;
        paused = on;
        return other;
    }

    public int step() {
        return landing() ? 1 : halving() ? 2 : asking() ? 3 : forming() ? 4 : 0;
    }

    private boolean landing() {
        if (row.isEmpty() || row.get(0).state != State.PASSED) {
            return false;
        }
        tree.addAll(row.remove(0).items);
        for (Item i : order()) {
            if (conflictsWithAny(i, tree)) {
                i.why = 2;
            }
        }
        return true;
    }

    private boolean halving() {
        if (row.isEmpty() || row.get(0).state != State.FAILED) {
            return false;
        }
        beginAnew(0);
        Batch first = row.get(0);
        int size = first.items.size();
        if (size == 1) {
            first.items.get(0).why = 1;
            first.items.get(0).treeThen = tree.size();
            row.remove(0);
            return true;
        }
        int half = size % 2 == 0 ? size / 2 : size / 2 + 1;
        Batch second = new Batch();
        second.items = new ArrayList<>(first.items.subList(half, size));
        first.items = new ArrayList<>(first.items.subList(0, half));
        row.add(1, second);
        madeTwo++;
        return true;
    }

    private boolean asking() {
        if (paused || row.stream().filter(b -> b.state == State.ASKED).count() >= width) {
            return false;
        }
        for (Batch b : row) {
            boolean ready = row.subList(0, row.indexOf(b)).stream()
                .allMatch(x -> x.state == State.ASKED || x.state == State.PASSED);
            if (b.state == State.NEW && ready) {
                b.state = State.ASKED;
                return true;
            }
        }
        return false;
    }

    private boolean forming() {
        if (paused || row.size() >= width) {
            return false;
        }
        Batch b = new Batch();
        for (Item i : order()) {
            boolean fits = !conflictsWithAny(i, inBatches()) && !conflictsWithAny(i, b.items);
            if (fits && b.items.size() < most) {
                b.items.add(i);
            }
        }
        return !b.items.isEmpty() && row.add(b);
    }

    public int answer(int group, boolean passes) {
        Batch b = batch(group);
        if (b == null || b.state != State.ASKED) {
            return -1;
        }
        answers++;
        if (passes) {
            b.state = State.PASSED;
        } else if (++b.failures >= again) {
            b.state = State.FAILED;
        }
        return b.state.ordinal();
    }

    public int groups() {
        return row.size();
    }

    public int group(int i, int what) {
        Batch b = batch(i);
        if (b == null || what < 0 || what > 3) {
            return -1;
        }
        int base = row.subList(0, i).stream().mapToInt(x -> x.items.size()).sum();
        return new int[] {b.state.ordinal(), b.items.size(), b.failures, base}[what];
    }

    public int member(int group, int k) {
        Batch b = batch(group);
        return b == null ? -1 : numberAt(b.items, k);
    }

    private static int numberAt(List<Item> items, int k) {
        return k < 0 || k >= items.size() ? -1 : items.get(k).number;
    }

    public int waiting(int k) {
        return numberAt(order(), k);
    }

    public int landed(int k) {
        return numberAt(tree, k);
    }

    public int where(int change) {
        Item i = item(change);
        if (i == null) {
            return -1;
        }
        return i.why != 0 ? 3 : tree.contains(i) ? 2 : batchOf(i) != null ? 1 : 0;
    }

    public int why(int change) {
        Item i = item(change);
        return i == null ? -1 : i.why;
    }

    public int by(int change) {
        Item i = item(change);
        if (i != null && i.why == 1) {
            return i.treeThen;
        }
        if (i != null && i.why == 2) {
            return tree.stream().filter(i.conflicts::contains).findFirst().get().number;
        }
        return -1;
    }

    public int counted(int what) {
        switch (what) {
            case 0: return answers;
            case 1: return madeTwo;
            case 2: return anew;
            case 3: return tree.stream().mapToInt(i -> i.parts).reduce(0, (a, b) -> a | b);
            default: return -1;
        }
    }

    /** No two of the tree and the groups conflict, as the document's Terms say. */
    public boolean isSound() {
        List<Item> together = new ArrayList<>(tree);
        together.addAll(inBatches());
        return together.stream().noneMatch(i -> conflictsWithAny(i, together));
    }
}
