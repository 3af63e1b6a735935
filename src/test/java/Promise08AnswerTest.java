/** Promise 8: answer, and ANSWERING in the Terms. */
public final class Promise08AnswerTest {
    private static final String STATE = "ANSWERING for the GROUP at a place of the row (from 0): its STATE then";
    private static final String NO_SUCH = "- 1 if there is no such GROUP";
    private static final String NOT_ASKED = "or it isn't ASKED";
    private static final String FEWER = "it is ASKED still, as long as its failures are fewer than AGAIN; else it has FAILED";

    public static void main(String[] args) {
        Promise p = new Promise("Promise 8: answer");
        p.says(STATE, "the first place", Promise08AnswerTest::firstPlace);
        p.says(STATE, "the last place", Promise08AnswerTest::lastPlace);
        p.says(STATE, "while it is PAUSED", Promise08AnswerTest::whilePaused);
        p.says("a GROUP that is ASKED PASSES: PASSED", "after failures", Promise08AnswerTest::passesAfterFailures);
        p.says("Or it doesn't: it has a failure more", "it alone", Promise08AnswerTest::aFailureMore);
        p.says(FEWER, "AGAIN 1", Promise08AnswerTest::again1);
        p.says(FEWER, "AGAIN 2", Promise08AnswerTest::again2);
        p.says(FEWER, "AGAIN 3", Promise08AnswerTest::again3);
        p.says(NO_SUCH, "no GROUPS at all", Promise08AnswerTest::noGroups);
        p.says(NO_SUCH, "too small", Promise08AnswerTest::placeTooSmall);
        p.says(NO_SUCH, "too large", Promise08AnswerTest::placeTooLarge);
        p.says(NO_SUCH, "it has gone", Promise08AnswerTest::groupHasGone);
        p.says(NOT_ASKED, "NEW", Promise08AnswerTest::newOne);
        p.says(NOT_ASKED, "NEW again", Promise08AnswerTest::oneThatBeganAnew);
        p.says(NOT_ASKED, "FAILED", Promise08AnswerTest::failedOne);
        p.says(NOT_ASKED, "PASSED", Promise08AnswerTest::passedOne);
        p.finish();
    }

    private static void firstPlace(Due due) {
        MergeQueue q = Made.asked(1, 4, 2, 4, 4);
        due.is("answer(0, true)", q.answer(0, true), 3);
        due.is("groups", View.groups(q), "3:0/0+0 1:1/0+1 1:2/0+2 1:3/0+3");
    }

    private static void lastPlace(Due due) {
        MergeQueue q = Made.asked(1, 4, 2, 4, 4);
        due.is("answer(3, false)", q.answer(3, false), 1);
        due.is("answer(3, false)", q.answer(3, false), 2);
        due.is("groups", View.groups(q), "1:0/0+0 1:1/0+1 1:2/0+2 2:3/2+3");
    }

    private static void whilePaused(Due due) {
        MergeQueue q = Made.asked(1, 2, 1, 2, 2);
        q.pause(true);
        due.is("answer(1, false)", q.answer(1, false), 2);
        due.is("answer(0, true)", q.answer(0, true), 3);
    }

    private static void passesAfterFailures(Due due) {
        MergeQueue q = Made.asked(1, 1, 3, 1, 1);
        q.answer(0, false);
        q.answer(0, false);
        due.is("answer(0, true)", q.answer(0, true), 3);
        due.is("groups", View.groups(q), "3:0/2+0");
        due.steps(q, 1);
    }

    private static void aFailureMore(Due due) {
        MergeQueue q = Made.asked(1, 3, 3, 3, 3);
        q.answer(1, false);
        due.is("groups", View.groups(q), "1:0/0+0 1:1/1+1 1:2/0+2");
        q.answer(1, false);
        due.is("groups", View.groups(q), "1:0/0+0 1:1/2+1 1:2/0+2");
    }

    private static void again1(Due due) {
        failsAfter(due, 1, 2);
    }

    private static void again2(Due due) {
        failsAfter(due, 2, 1, 2);
    }

    private static void again3(Due due) {
        failsAfter(due, 3, 1, 1, 2);
    }

    private static void failsAfter(Due due, int again, int... states) {
        MergeQueue q = Made.asked(2, 1, again, 2, 1);
        for (int i = 0; i < states.length; i++) {
            due.is("answer(0, false) " + i, q.answer(0, false), states[i]);
            due.is("its failures", q.group(0, 2), i + 1);
        }
        due.is("the next answer", q.answer(0, false), -1);
        due.steps(q, 2);
    }

    private static void noGroups(Due due) {
        refused(due, new MergeQueue(1, 1, 1), Outside.from(0));
        refused(due, Made.filled(1, 1, 1, 3), Outside.from(0));
    }

    private static void placeTooSmall(Due due) {
        refused(due, Made.asked(1, 4, 2, 5, 4), Outside.below());
    }

    private static void placeTooLarge(Due due) {
        refused(due, Made.asked(1, 4, 2, 5, 4), Outside.from(4));
    }

    private static void groupHasGone(Due due) {
        MergeQueue q = Made.asked(1, 2, 1, 2, 2);
        q.answer(0, true);
        due.steps(q, 1);
        refused(due, q, 1);
        due.is("answer(0, true)", q.answer(0, true), 3);
    }

    private static void newOne(Due due) {
        refused(due, Made.everyState(), 3);
    }

    private static void oneThatBeganAnew(Due due) {
        MergeQueue q = Made.asked(2, 1, 1, 2, 1);
        q.leave(0);
        refused(due, q, 0);
    }

    private static void failedOne(Due due) {
        refused(due, Made.everyState(), 2);
    }

    private static void passedOne(Due due) {
        refused(due, Made.everyState(), 1);
    }

    private static void refused(Due due, MergeQueue q, int... groups) {
        due.unchanged(q, () -> {
            due.each("answer true", groups, group -> q.answer(group, true), -1);
            due.each("answer false", groups, group -> q.answer(group, false), -1);
        });
    }
}
