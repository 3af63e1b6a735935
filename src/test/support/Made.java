/** Objects that the tests begin with. */
public final class Made {
    // The changes of everyPlace(), by where they are.
    public static final int TREE = 0;
    public static final int TREE_NEXT = 1;
    public static final int OUT_BY_1 = 2;
    public static final int OUT_BY_2 = 3;
    public static final int OUT_BY_3 = 4;
    public static final int GROUPED = 5;
    public static final int WAITING = 6;
    public static final int WAITING_NEXT = 7;
    public static final int NO_SUCH = 8;

    private Made() {
    }

    /** One with changes of the same rank, each touching a part of its own. */
    public static MergeQueue filled(int most, int width, int again, int changes) {
        MergeQueue q = new MergeQueue(most, width, again);
        for (int i = 0; i < changes; i++) {
            q.change(5, 1 << i % 32);
        }
        return q;
    }

    /** One with a change of each rank, in this order. */
    public static MergeQueue ranked(int most, int width, int again, int... ranks) {
        MergeQueue q = new MergeQueue(most, width, again);
        for (int rank : ranks) {
            q.change(rank, 0);
        }
        return q;
    }

    /** One as by filled, with so many groups that are formed and asked. */
    public static MergeQueue asked(int most, int width, int again, int changes, int groups) {
        MergeQueue q = filled(most, width, again, changes);
        for (int i = 0; i < groups; i++) {
            formAndAsk(q);
        }
        return q;
    }

    /** One with a change in every place where one can be. */
    public static MergeQueue everyPlace() {
        MergeQueue q = filled(1, 1, 1, NO_SUCH);
        q.conflict(TREE, OUT_BY_2);
        tryNext(q, true);
        tryNext(q, true);
        tryNext(q, false);
        q.leave(OUT_BY_3);
        q.step();
        return q;
    }

    /** With one group in each state, from the first on: asked, passed, failed, new. */
    public static MergeQueue everyState() {
        MergeQueue q = asked(2, 4, 1, 8, 3);
        q.answer(1, true);
        q.answer(2, false);
        q.step();
        return q;
    }

    /** Of an object without groups, forms one and answers; then it lands, or is halved or goes. */
    public static void tryNext(MergeQueue q, boolean passes) {
        formAndAsk(q);
        q.answer(0, passes);
        q.step();
    }

    private static void formAndAsk(MergeQueue q) {
        q.step();
        q.step();
    }
}
