/** Promise 14: where. */
public final class Promise14WhereTest {
    private static final String WHERE = "0 it WAITS, 1 in a GROUP, 2 in the TREE, 3 OUT";
    private static final String NONE_SUCH = "NONE if there is none such";

    public static void main(String[] args) {
        Promise p = new Promise("Promise 14: where");
        p.says(WHERE, "each of the four", Promise14WhereTest::eachOfTheFour);
        p.says(WHERE, "the 1st and the 40th", Promise14WhereTest::firstAndFortieth);
        p.says(NONE_SUCH, "no CHANGES at all", Promise14WhereTest::noChanges);
        p.says(NONE_SUCH, "too small", Promise14WhereTest::tooSmall);
        p.says(NONE_SUCH, "too large", Promise14WhereTest::tooLarge);
        p.finish();
    }

    private static void eachOfTheFour(Due due) {
        MergeQueue q = Made.everyPlace();
        due.is("one that waits", q.where(Made.WAITING), 0);
        due.is("one in a group", q.where(Made.GROUPED), 1);
        due.is("one in the tree", q.where(Made.TREE), 2);
        due.is("one that is out by 1", q.where(Made.OUT_BY_1), 3);
        due.is("one that is out by 2", q.where(Made.OUT_BY_2), 3);
        due.is("one that is out by 3", q.where(Made.OUT_BY_3), 3);
    }

    private static void firstAndFortieth(Due due) {
        MergeQueue q = Made.filled(1, 1, 1, 40);
        q.jump(39);
        due.steps(q, 4);
        due.is("where(0)", q.where(0), 0);
        due.is("where(39)", q.where(39), 1);
        due.is("where(40)", q.where(40), MergeQueue.NONE);
    }

    private static void noChanges(Due due) {
        due.is("where(0)", new MergeQueue(1, 1, 1).where(0), MergeQueue.NONE);
    }

    private static void tooSmall(Due due) {
        due.each("where", Outside.below(), Made.everyPlace()::where, MergeQueue.NONE);
    }

    private static void tooLarge(Due due) {
        due.each("where", Outside.from(Made.NO_SUCH), Made.everyPlace()::where, MergeQueue.NONE);
        due.each("where among forty", Outside.from(40), Made.filled(1, 1, 1, 40)::where, MergeQueue.NONE);
    }
}
