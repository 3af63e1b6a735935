/** Kind 4 of a step, FORMING, in the Terms. */
public final class TermsFormingTest {
    private static final String PAUSED = "it isn't PAUSED";
    private static final String FEWER_GROUPS = "there are fewer than WIDTH GROUPS";
    private static final String UP_TO_MOST = "come into a GROUP, up to MOST";
    private static final String NO_CONFLICT = "such as CONFLICT with none that is in a GROUP (in this one, too)";
    private static final String BEHIND = "it comes behind all others, NEW";
    private static final String NONE_SUCH = "(If there is none such, this can't be done.)";

    public static void main(String[] args) {
        Promise p = new Promise("Terms, 4 FORMING");
        p.says(PAUSED, "it is", TermsFormingTest::noFormingWhilePaused);
        p.says(FEWER_GROUPS, "as many, and one goes", TermsFormingTest::asManyGroupsAsWidth);
        p.says(FEWER_GROUPS, "as many, and not all ASKED", TermsFormingTest::answeredGroupsCount);
        p.says(FEWER_GROUPS, "more by HALVING", TermsFormingTest::moreGroupsThanWidth);
        p.says("of those that WAIT, in ORDER", "JUMPED, RANK, number", TermsFormingTest::inOrder);
        p.says(UP_TO_MOST, "fewer, as many, one more", TermsFormingTest::fewerAsManyOneMore);
        p.says(NO_CONFLICT, "in this one", TermsFormingTest::conflictInThisGroup);
        p.says(NO_CONFLICT, "in one in front", TermsFormingTest::conflictWithAGroupInFront);
        p.says(NO_CONFLICT, "with one that only waits", TermsFormingTest::conflictWithOneThatWaits);
        p.says(NO_CONFLICT, "with one that is OUT", TermsFormingTest::conflictWithOneThatIsOut);
        p.says(BEHIND, "after all in the row", TermsFormingTest::behindAllOthers);
        p.says(NONE_SUCH, "none waits", TermsFormingTest::noneWaits);
        p.says(NONE_SUCH, "all conflict", TermsFormingTest::allConflict);
        p.finish();
    }

    private static void noFormingWhilePaused(Due due) {
        MergeQueue q = Made.filled(1, 1, 1, 1);
        q.pause(true);
        due.steps(q, 0);
        due.is("groups()", q.groups(), 0);
        q.pause(false);
        due.steps(q, 4);
    }

    private static void asManyGroupsAsWidth(Due due) {
        for (int width = 1; width <= 4; width++) {
            MergeQueue q = Made.asked(1, width, 1, 8, width);
            due.steps(q, 0);
            q.answer(0, true);
            due.steps(q, 1, 4, 3, 0);
            due.is("groups()", q.groups(), width);
        }
    }

    private static void answeredGroupsCount(Due due) {
        for (boolean passes : new boolean[] {true, false}) {
            MergeQueue q = Made.asked(1, 2, 1, 3, 2);
            q.answer(1, passes);
            due.steps(q, 0);
            due.is("groups()", q.groups(), 2);
        }
    }

    private static void moreGroupsThanWidth(Due due) {
        MergeQueue q = Made.asked(2, 1, 1, 3, 1);
        q.answer(0, false);
        due.steps(q, 2, 3, 0);
        q.answer(0, true);
        due.steps(q, 1, 3, 0);
        q.answer(0, true);
        due.steps(q, 1, 4);
        due.is("groups", View.groups(q), "0:2/0+0");
    }

    private static void inOrder(Due due) {
        MergeQueue q = Made.ranked(3, 2, 1, 1, 7, 3, 9, 7);
        q.jump(0);
        due.steps(q, 4, 3, 4);
        due.is("groups", View.groups(q), "1:0,3,1/0+0 0:4,2/0+3");
    }

    private static void fewerAsManyOneMore(Due due) {
        int[] sizes = {0, 1, 2, 3, 3, 3};
        for (int changes = 1; changes < sizes.length; changes++) {
            MergeQueue q = Made.filled(3, 1, 1, changes);
            due.steps(q, 4);
            due.is("size of " + changes, q.group(0, 1), sizes[changes]);
            due.is("the next that waits", q.waiting(0), changes > 3 ? 3 : MergeQueue.NONE);
        }
    }

    private static void conflictInThisGroup(Due due) {
        MergeQueue q = Made.filled(3, 1, 1, 6);
        q.conflict(0, 1);
        q.conflict(2, 3);
        due.steps(q, 4);
        due.is("groups", View.groups(q), "0:0,2,4/0+0");
        due.is("waiting", View.waiting(q), "1,3,5");
    }

    private static void conflictWithAGroupInFront(Due due) {
        MergeQueue q = Made.filled(2, 3, 1, 6);
        q.conflict(0, 2);
        q.conflict(1, 4);
        due.steps(q, 4, 3, 4);
        due.is("groups", View.groups(q), "1:0,1/0+0 0:3,5/0+2");
        due.is("waiting", View.waiting(q), "2,4");
    }

    private static void conflictWithOneThatWaits(Due due) {
        MergeQueue q = Made.filled(2, 2, 1, 4);
        q.conflict(0, 1);
        q.conflict(1, 2);
        due.steps(q, 4, 3, 4);
        due.is("groups", View.groups(q), "1:0,2/0+0 0:3/0+2");
        due.is("waiting", View.waiting(q), "1");
    }

    private static void conflictWithOneThatIsOut(Due due) {
        MergeQueue q = Made.filled(2, 1, 1, 2);
        q.conflict(0, 1);
        q.leave(0);
        due.steps(q, 4);
        due.is("groups", View.groups(q), "0:1/0+0");
    }

    private static void behindAllOthers(Due due) {
        MergeQueue q = Made.asked(1, 3, 1, 3, 2);
        q.jump(2);
        q.change(9, 0);
        q.jump(3);
        due.steps(q, 4);
        due.is("groups", View.groups(q), "1:0/0+0 1:1/0+1 0:2/0+2");
    }

    private static void noneWaits(Due due) {
        MergeQueue q = Made.asked(1, 4, 1, 1, 1);
        due.unchanged(q, () -> due.steps(q, 0));
    }

    private static void allConflict(Due due) {
        MergeQueue q = Made.filled(1, 4, 1, 3);
        q.conflict(0, 1);
        q.conflict(0, 2);
        due.steps(q, 4, 3);
        due.unchanged(q, () -> due.steps(q, 0));
    }
}
