/** Kind 3 of a step, ASKING, in the Terms. */
public final class TermsAskingTest {
    private static final String PAUSED = "it isn't PAUSED";
    private static final String FEWER_ASKED = "fewer than WIDTH GROUPS are ASKED";
    private static final String IN_FRONT = "there is a NEW GROUP in front of which all are ASKED or PASSED: it is ASKED";

    public static void main(String[] args) {
        Promise p = new Promise("Terms, 3 ASKING");
        p.says(PAUSED, "it is", TermsAskingTest::noAskingWhilePaused);
        p.says(FEWER_ASKED, "as many are, by HALVING", TermsAskingTest::asManyAsWidthAreAsked);
        p.says(FEWER_ASKED, "one is answered", TermsAskingTest::oneIsAnswered);
        p.says(IN_FRONT, "none in front", TermsAskingTest::noneInFront);
        p.says(IN_FRONT, "one that is ASKED, one that has PASSED", TermsAskingTest::askedAndPassedInFront);
        p.says(IN_FRONT, "one that has FAILED", TermsAskingTest::failedInFront);
        p.says(IN_FRONT, "one that is NEW", TermsAskingTest::newInFront);
        p.finish();
    }

    private static void noAskingWhilePaused(Due due) {
        MergeQueue q = Made.filled(1, 1, 1, 1);
        due.steps(q, 4);
        q.pause(true);
        due.steps(q, 0);
        due.is("group(0, 0)", q.group(0, 0), 0);
        q.pause(false);
        due.steps(q, 3);
        due.is("group(0, 0)", q.group(0, 0), 1);
    }

    private static void asManyAsWidthAreAsked(Due due) {
        for (int width = 1; width <= 4; width++) {
            MergeQueue q = Made.asked(2, width, 1, 8, width);
            q.answer(0, false);
            due.steps(q, 2);
            for (int asked = 0; asked < width; asked++) {
                due.steps(q, 3);
            }
            due.steps(q, 0);
            due.is("the last that is asked", q.group(width - 1, 0), 1);
            due.is("the one behind", q.group(width, 0), 0);
        }
    }

    private static void oneIsAnswered(Due due) {
        MergeQueue q = Made.asked(4, 2, 1, 8, 2);
        q.answer(0, false);
        due.steps(q, 2, 3, 3, 0);
        q.answer(1, true);
        due.steps(q, 3, 0);
        due.is("groups", View.groups(q), "1:0,1/0+0 3:2,3/0+2 1:4,5,6,7/0+4");
    }

    private static void noneInFront(Due due) {
        MergeQueue q = Made.filled(1, 1, 1, 1);
        due.steps(q, 4, 3);
        due.is("groups", View.groups(q), "1:0/0+0");
    }

    private static void askedAndPassedInFront(Due due) {
        MergeQueue q = Made.asked(1, 3, 1, 3, 2);
        q.answer(1, true);
        due.steps(q, 4, 3, 0);
        due.is("groups", View.groups(q), "1:0/0+0 3:1/0+1 1:2/0+2");
    }

    private static void failedInFront(Due due) {
        MergeQueue q = Made.asked(1, 3, 1, 3, 2);
        q.answer(1, false);
        due.steps(q, 4, 0);
        due.is("groups", View.groups(q), "1:0/0+0 2:1/1+1 0:2/0+2");
    }

    private static void newInFront(Due due) {
        MergeQueue q = Made.asked(2, 2, 1, 4, 2);
        q.leave(0);
        due.is("groups", View.groups(q), "0:1/0+0 0:2,3/0+1");
        due.steps(q, 3);
        due.is("the first before the second", View.groups(q), "1:1/0+0 0:2,3/0+1");
        due.steps(q, 3);
        due.is("groups", View.groups(q), "1:1/0+0 1:2,3/0+1");
    }
}
