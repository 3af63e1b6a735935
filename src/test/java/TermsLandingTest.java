/** Kind 1 of a step, LANDING, in the Terms. */
public final class TermsLandingTest {
    private static final String PASSED = "the first GROUP has PASSED";
    private static final String INTO_TREE = "its CHANGES come into the TREE, in order, and it goes";
    private static final String BY_2 = "Each CHANGE that WAITS and CONFLICTS with one of the TREE is OUT by 2";

    public static void main(String[] args) {
        Promise p = new Promise("Terms, 1 LANDING");
        p.says(PASSED, "not one behind", TermsLandingTest::passedOneBehindWaits);
        p.says(PASSED, "even while PAUSED", TermsLandingTest::landsWhilePaused);
        p.says(INTO_TREE, "those behind stay as they are", TermsLandingTest::thoseBehindStay);
        p.says(INTO_TREE, "the only one", TermsLandingTest::theOnlyOneLands);
        p.says(BY_2, "at landing and not before", TermsLandingTest::outAtLanding);
        p.says(BY_2, "with the last of the GROUP", TermsLandingTest::outByTheLast);
        p.says(BY_2, "none of those in GROUPS", TermsLandingTest::groupsAreSpared);
        p.says(BY_2, "all that wait, and none", TermsLandingTest::allThatWaitAndNone);
        p.finish();
    }

    private static void passedOneBehindWaits(Due due) {
        MergeQueue q = Made.asked(1, 2, 1, 2, 2);
        q.answer(1, true);
        due.steps(q, 0);
        due.is("landed", View.landed(q), "");
        q.answer(0, true);
        due.steps(q, 1, 1, 0);
        due.is("landed", View.landed(q), "0,1");
    }

    private static void landsWhilePaused(Due due) {
        MergeQueue q = Made.asked(1, 1, 1, 2, 1);
        q.pause(true);
        q.answer(0, true);
        due.steps(q, 1, 0);
    }

    private static void thoseBehindStay(Due due) {
        MergeQueue q = Made.asked(2, 3, 2, 6, 3);
        q.answer(0, true);
        q.answer(1, false);
        q.answer(2, true);
        due.steps(q, 1);
        due.is("landed", View.landed(q), "0,1");
        due.is("groups", View.groups(q), "1:2,3/1+0 3:4,5/0+2");
        due.is("counted(2)", q.counted(2), 0);
    }

    private static void theOnlyOneLands(Due due) {
        MergeQueue q = Made.filled(8, 1, 1, 8);
        q.jump(7);
        Made.tryNext(q, true);
        due.is("landed", View.landed(q), "7,0,1,2,3,4,5,6");
        due.is("groups()", q.groups(), 0);
    }

    private static void outAtLanding(Due due) {
        MergeQueue q = Made.filled(1, 1, 1, 3);
        q.conflict(0, 2);
        due.steps(q, 4, 3);
        q.answer(0, true);
        due.is("it waits till then", View.change(q, 2), "0 0 -1");
        due.steps(q, 1);
        due.is("it is out", View.change(q, 2), "3 2 0");
        due.is("waiting", View.waiting(q), "1");
    }

    private static void outByTheLast(Due due) {
        MergeQueue q = Made.filled(8, 1, 1, 10);
        q.conflict(9, 7);
        Made.tryNext(q, true);
        due.is("change 9", View.change(q, 9), "3 2 7");
        due.is("waiting", View.waiting(q), "8");
    }

    private static void groupsAreSpared(Due due) {
        MergeQueue q = Made.filled(1, 2, 1, 3);
        q.conflict(1, 2);
        due.steps(q, 4, 3, 4, 3);
        q.answer(0, true);
        due.steps(q, 1);
        due.is("one in conflict with a group waits on", View.change(q, 2), "0 0 -1");
        due.is("groups", View.groups(q), "1:1/0+0");
    }

    private static void allThatWaitAndNone(Due due) {
        MergeQueue q = Made.filled(1, 1, 1, 4);
        q.conflict(0, 1);
        q.conflict(0, 2);
        q.conflict(0, 3);
        Made.tryNext(q, true);
        due.is("all are out", View.waiting(q), "");
        MergeQueue r = Made.filled(1, 1, 1, 4);
        Made.tryNext(r, true);
        due.is("none is out", View.waiting(r), "1,2,3");
    }
}
