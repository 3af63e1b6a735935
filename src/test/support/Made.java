/** Objects that the tests begin with. */
public final class Made {
    private Made() {
    }

    /** One with changes of the same rank, each touching a part of its own. */
    public static MergeQueue filled(int most, int width, int again, int changes) {
        MergeQueue q = new MergeQueue(most, width, again);
        for (int i = 0; i < changes; i++) {
            q.change(5, 1 << i % 32);
        }
        return q;
    }
}
