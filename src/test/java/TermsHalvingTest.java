/** Kind 2 of a step, HALVING, in the Terms. */
public final class TermsHalvingTest {
    private static final String FAILED = "the first GROUP has FAILED";
    private static final String ONE = "If it has one CHANGE, that is OUT by 1, and the GROUP goes";
    private static final String HALVES = "one of the first half of its CHANGES (by one more, if they are odd), one of the others";
    private static final String ANEW = "It and all GROUPS behind BEGIN ANEW";

    public static void main(String[] args) {
        Promise p = new Promise("Terms, 2 HALVING");
        p.says(FAILED, "not one behind", TermsHalvingTest::failedOneBehindWaits);
        p.says(FAILED, "even while PAUSED", TermsHalvingTest::halvesWhilePaused);
        p.says(ONE, "the only one", TermsHalvingTest::oneChangeGoesOut);
        p.says(ONE, "others behind", TermsHalvingTest::oneChangeGoesOutBefore);
        p.says(ONE, "those in conflict with it wait on", TermsHalvingTest::conflictWithAFailedOne);
        p.says(HALVES, "2 to 8 changes", TermsHalvingTest::halvesOf2To8);
        p.says(HALVES, "down to one", TermsHalvingTest::downToOne);
        p.says(ANEW, "whatever the STATE", TermsHalvingTest::allBehindBeginAnew);
        p.says(ANEW, "behind one of one CHANGE", TermsHalvingTest::allBehindOneBeginAnew);
        p.finish();
    }

    private static void failedOneBehindWaits(Due due) {
        MergeQueue q = Made.asked(2, 2, 1, 4, 2);
        q.answer(1, false);
        due.steps(q, 0);
        due.is("groups", View.groups(q), "1:0,1/0+0 2:2,3/1+2");
        q.answer(0, true);
        due.steps(q, 1, 2);
        due.is("groups", View.groups(q), "0:2/0+0 0:3/0+1");
    }

    private static void halvesWhilePaused(Due due) {
        MergeQueue q = Made.asked(2, 1, 1, 2, 1);
        q.pause(true);
        q.answer(0, false);
        due.steps(q, 2, 0);
    }

    private static void oneChangeGoesOut(Due due) {
        MergeQueue q = Made.asked(1, 1, 1, 1, 1);
        q.answer(0, false);
        due.steps(q, 2, 0);
        due.is("groups()", q.groups(), 0);
        due.is("change 0", View.change(q, 0), "3 1 0");
    }

    private static void oneChangeGoesOutBefore(Due due) {
        MergeQueue q = Made.asked(1, 2, 1, 3, 2);
        q.answer(0, false);
        due.steps(q, 2);
        due.is("groups", View.groups(q), "0:1/0+0");
        due.is("change 0", View.change(q, 0), "3 1 0");
        due.is("waiting", View.waiting(q), "2");
    }

    private static void conflictWithAFailedOne(Due due) {
        MergeQueue q = Made.filled(1, 1, 1, 2);
        q.conflict(0, 1);
        Made.tryNext(q, false);
        due.is("change 1", View.change(q, 1), "0 0 -1");
        Made.tryNext(q, true);
        due.is("landed", View.landed(q), "1");
    }

    private static void halvesOf2To8(Due due) {
        int[] firstHalves = {0, 0, 1, 2, 2, 3, 3, 4, 4};
        for (int size = 2; size <= 8; size++) {
            MergeQueue q = Made.asked(size, 1, 1, 8, 1);
            q.answer(0, false);
            due.steps(q, 2);
            int half = firstHalves[size];
            due.is("groups of " + size, q.groups(), 2);
            due.is("first half of " + size, q.group(0, 1), half);
            due.is("others of " + size, q.group(1, 1), size - half);
            due.is("last of the first half", q.member(0, half - 1), half - 1);
            due.is("first of the others", q.member(1, 0), half);
        }
    }

    private static void downToOne(Due due) {
        MergeQueue q = Made.asked(4, 1, 1, 4, 1);
        q.answer(0, false);
        due.steps(q, 2, 3);
        q.answer(0, true);
        due.steps(q, 1, 3);
        q.answer(0, false);
        due.steps(q, 2, 3);
        q.answer(0, false);
        due.steps(q, 2, 3);
        q.answer(0, true);
        due.steps(q, 1, 0);
        due.is("landed", View.landed(q), "0,1,3");
        due.is("change 2", View.change(q, 2), "3 1 2");
    }

    private static void allBehindBeginAnew(Due due) {
        MergeQueue q = behindAFailedOne(2, 2);
        due.steps(q, 2);
        due.is("groups", View.groups(q), "0:0/0+0 0:1/0+1 0:2,3/0+2 0:4,5/0+4 0:6,7/0+6");
        due.is("counted(2)", q.counted(2), 1);
    }

    private static void allBehindOneBeginAnew(Due due) {
        MergeQueue q = behindAFailedOne(1, 2);
        due.steps(q, 2);
        due.is("groups", View.groups(q), "0:1/0+0 0:2/0+1 0:3/0+2");
        due.is("counted(2)", q.counted(2), 1);
    }

    /** Four groups: failed, passed, asked with a failure, failed. */
    private static MergeQueue behindAFailedOne(int most, int again) {
        MergeQueue q = Made.asked(most, 4, again, 4 * most, 4);
        for (int i = 0; i < again; i++) {
            q.answer(0, false);
            q.answer(3, false);
        }
        q.answer(1, false);
        q.answer(1, true);
        q.answer(2, false);
        return q;
    }
}
