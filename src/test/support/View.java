/** What an object shows, as short texts that a test can compare at one glance. */
public final class View {
    private View() {
    }

    /** The groups as "state:members/failures+base", one behind the other. */
    public static String groups(MergeQueue q) {
        StringBuilder text = new StringBuilder();
        for (int g = 0; g < q.groups(); g++) {
            text.append(g == 0 ? "" : " ").append(q.group(g, 0)).append(':').append(members(q, g))
                .append('/').append(q.group(g, 2)).append('+').append(q.group(g, 3));
        }
        return text.toString();
    }

    private static String members(MergeQueue q, int group) {
        StringBuilder text = new StringBuilder();
        for (int k = 0; k < q.group(group, 1); k++) {
            text.append(k == 0 ? "" : ",").append(q.member(group, k));
        }
        return text.toString();
    }

    public static String waiting(MergeQueue q) {
        StringBuilder text = new StringBuilder();
        for (int k = 0; q.waiting(k) != MergeQueue.NONE; k++) {
            text.append(k == 0 ? "" : ",").append(q.waiting(k));
        }
        return text.toString();
    }

    public static String landed(MergeQueue q) {
        StringBuilder text = new StringBuilder();
        for (int k = 0; q.landed(k) != MergeQueue.NONE; k++) {
            text.append(k == 0 ? "" : ",").append(q.landed(k));
        }
        return text.toString();
    }

    /** Of one change: where it is, why, and by what. */
    public static String change(MergeQueue q, int change) {
        return q.where(change) + " " + q.why(change) + " " + q.by(change);
    }
}
