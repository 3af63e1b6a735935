/** Promise 15: why. */
public final class Promise15WhyTest {
    private static final String WHY = "Why a CHANGE is OUT: 1 to 3";
    private static final String NOT_OUT = "0 if it isn't";
    private static final String NONE_SUCH = "NONE if there is none such";

    public static void main(String[] args) {
        Promise p = new Promise("Promise 15: why");
        p.says(WHY, "each of the three", Promise15WhyTest::eachOfTheThree);
        p.says(WHY, "by 2 in both ways", Promise15WhyTest::byTwoInBothWays);
        p.says(NOT_OUT, "it waits", Promise15WhyTest::itWaits);
        p.says(NOT_OUT, "in a GROUP", Promise15WhyTest::inAGroup);
        p.says(NOT_OUT, "in the TREE", Promise15WhyTest::inTheTree);
        p.says(NONE_SUCH, "no CHANGES at all", Promise15WhyTest::noChanges);
        p.says(NONE_SUCH, "too small", Promise15WhyTest::tooSmall);
        p.says(NONE_SUCH, "too large", Promise15WhyTest::tooLarge);
        p.finish();
    }

    private static void eachOfTheThree(Due due) {
        MergeQueue q = Made.everyPlace();
        due.is("one that failed", q.why(Made.OUT_BY_1), 1);
        due.is("one that conflicts", q.why(Made.OUT_BY_2), 2);
        due.is("one that left", q.why(Made.OUT_BY_3), 3);
    }

    private static void byTwoInBothWays(Due due) {
        MergeQueue q = Made.everyPlace();
        q.conflict(Made.WAITING, Made.TREE);
        due.is("by a conflict told later", q.why(Made.WAITING), 2);
        due.is("by landing", q.why(Made.OUT_BY_2), 2);
    }

    private static void itWaits(Due due) {
        due.is("one that waits", Made.everyPlace().why(Made.WAITING), 0);
    }

    private static void inAGroup(Due due) {
        due.is("one in a group", Made.everyPlace().why(Made.GROUPED), 0);
        MergeQueue q = Made.asked(1, 1, 1, 1, 1);
        q.answer(0, false);
        due.is("one in a group that has failed", q.why(0), 0);
    }

    private static void inTheTree(Due due) {
        due.is("one in the tree", Made.everyPlace().why(Made.TREE), 0);
    }

    private static void noChanges(Due due) {
        due.is("why(0)", new MergeQueue(1, 1, 1).why(0), MergeQueue.NONE);
    }

    private static void tooSmall(Due due) {
        due.each("why", Outside.below(), Made.everyPlace()::why, MergeQueue.NONE);
    }

    private static void tooLarge(Due due) {
        due.each("why", Outside.from(Made.NO_SUCH), Made.everyPlace()::why, MergeQueue.NONE);
        due.each("why among forty", Outside.from(40), Made.filled(1, 1, 1, 40)::why, MergeQueue.NONE);
    }
}
