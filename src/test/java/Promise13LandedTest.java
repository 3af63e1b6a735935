/** Promise 13: landed. */
public final class Promise13LandedTest {
    private static final int NONE = MergeQueue.NONE;
    private static final String KTH = "The k-th CHANGE of the TREE";
    private static final String NONE_SUCH = "NONE if there is none such";

    public static void main(String[] args) {
        Promise p = new Promise("Promise 13: landed");
        p.says(KTH, "in the order of landing", Promise13LandedTest::inTheOrderOfLanding);
        p.says(KTH, "all forty", Promise13LandedTest::allForty);
        p.says(NONE_SUCH, "an empty TREE", Promise13LandedTest::emptyTree);
        p.says(NONE_SUCH, "too small", Promise13LandedTest::tooSmall);
        p.says(NONE_SUCH, "too large", Promise13LandedTest::tooLarge);
        p.finish();
    }

    private static void inTheOrderOfLanding(Due due) {
        MergeQueue q = Made.ranked(2, 1, 1, 1, 5, 9);
        q.jump(0);
        Made.tryNext(q, true);
        due.is("landed", View.landed(q), "0,2");
        Made.tryNext(q, true);
        due.is("landed", View.landed(q), "0,2,1");
    }

    private static void allForty(Due due) {
        MergeQueue q = Made.filled(8, 4, 1, 40);
        for (int i = 0; i < 5; i++) {
            Made.tryNext(q, true);
        }
        for (int k = 0; k < 40; k++) {
            due.is("landed(" + k + ")", q.landed(k), k);
        }
        due.is("landed(40)", q.landed(40), NONE);
        due.steps(q, 0);
    }

    private static void emptyTree(Due due) {
        due.is("of a new one", new MergeQueue(1, 1, 1).landed(0), NONE);
        MergeQueue q = Made.asked(1, 1, 1, 1, 1);
        q.answer(0, true);
        due.is("of one that passed but hasn't landed", q.landed(0), NONE);
    }

    private static void tooSmall(Due due) {
        due.each("landed", Outside.below(), Made.everyPlace()::landed, NONE);
    }

    private static void tooLarge(Due due) {
        MergeQueue q = Made.everyPlace();
        due.is("the last", q.landed(1), Made.TREE_NEXT);
        due.each("landed", Outside.from(2), q::landed, NONE);
    }
}
