import java.util.function.IntUnaryOperator;

/** What an object shows, as short texts that a test can compare at one glance. */
public final class View {
    // Above the forty that a row can have, so that a row without an end is seen, too.
    private static final int LONGEST = 50;

    private View() {
    }

    /** The groups as "state:members/failures+base", one behind the other. */
    public static String groups(MergeQueue q) {
        StringBuilder text = new StringBuilder();
        for (int g = 0; g < q.groups(); g++) {
            int group = g;
            text.append(g == 0 ? "" : " ").append(q.group(g, 0)).append(':')
                .append(row(k -> q.member(group, k)))
                .append('/').append(q.group(g, 2)).append('+').append(q.group(g, 3));
        }
        return text.toString();
    }

    public static String waiting(MergeQueue q) {
        return row(q::waiting);
    }

    public static String landed(MergeQueue q) {
        return row(q::landed);
    }

    private static String row(IntUnaryOperator shown) {
        StringBuilder text = new StringBuilder();
        int item = shown.applyAsInt(0);
        for (int k = 1; k < LONGEST && item != MergeQueue.NONE; k++) {
            text.append(k == 1 ? "" : ",").append(item);
            item = shown.applyAsInt(k);
        }
        return text.toString();
    }

    /** Of one change: where it is, why, and by what. */
    public static String change(MergeQueue q, int change) {
        return q.where(change) + " " + q.why(change) + " " + q.by(change);
    }

    /** All that can be seen without changing anything. */
    public static String all(MergeQueue q) {
        StringBuilder text = new StringBuilder();
        text.append(groups(q)).append('|').append(row(g -> q.group(g, 1)));
        text.append('|').append(waiting(q)).append('|').append(landed(q));
        for (int change = 0; change < LONGEST && q.where(change) != MergeQueue.NONE; change++) {
            text.append('|').append(change(q, change));
        }
        for (int what = 0; what < 4; what++) {
            text.append('|').append(q.counted(what));
        }
        return text.toString();
    }
}
