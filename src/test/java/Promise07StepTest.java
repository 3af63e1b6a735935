/** Promise 7: step. What each kind does is in the tests of the Terms. */
public final class Promise07StepTest {
    private static final String WHICH = "A STEP: which one was done";
    private static final String NONE_CAN_BE = "0 if none can be";

    public static void main(String[] args) {
        Promise p = new Promise("Promise 7: step");
        p.says(WHICH, "each of the four", Promise07StepTest::eachOfTheFour);
        p.says(WHICH, "one at a time", Promise07StepTest::oneAtATime);
        p.says(NONE_CAN_BE, "an empty object", Promise07StepTest::emptyObject);
        p.says(NONE_CAN_BE, "all have landed or are out", Promise07StepTest::allAreDone);
        p.says(NONE_CAN_BE, "all wait for answers", Promise07StepTest::allWaitForAnswers);
        p.says(NONE_CAN_BE, "it is PAUSED", Promise07StepTest::paused);
        p.says(NONE_CAN_BE, "those that wait conflict", Promise07StepTest::thoseThatWaitConflict);
        p.says(NONE_CAN_BE, "only GROUPS behind are answered", Promise07StepTest::onlyGroupsBehindAreAnswered);
        p.finish();
    }

    private static void eachOfTheFour(Due due) {
        MergeQueue q = Made.filled(2, 1, 1, 2);
        due.is("forming", q.step(), 4);
        due.is("asking", q.step(), 3);
        q.answer(0, false);
        due.is("halving", q.step(), 2);
        due.is("asking", q.step(), 3);
        q.answer(0, true);
        due.is("landing", q.step(), 1);
    }

    private static void oneAtATime(Due due) {
        MergeQueue q = Made.asked(1, 2, 1, 3, 2);
        q.answer(0, true);
        q.answer(1, true);
        due.steps(q, 1);
        due.is("landed", View.landed(q), "0");
        due.is("groups", View.groups(q), "3:1/0+0");
        due.steps(q, 1);
        due.is("landed", View.landed(q), "0,1");
        due.is("groups", View.groups(q), "");
    }

    private static void emptyObject(Due due) {
        noneCanBe(due, new MergeQueue(8, 4, 3));
    }

    private static void allAreDone(Due due) {
        MergeQueue q = Made.filled(1, 1, 1, 3);
        Made.tryNext(q, true);
        Made.tryNext(q, false);
        q.leave(2);
        noneCanBe(due, q);
    }

    private static void allWaitForAnswers(Due due) {
        noneCanBe(due, Made.asked(1, 4, 3, 5, 4));
    }

    private static void paused(Due due) {
        MergeQueue q = Made.asked(1, 2, 1, 3, 1);
        due.steps(q, 4);
        q.pause(true);
        noneCanBe(due, q);
    }

    private static void thoseThatWaitConflict(Due due) {
        MergeQueue q = Made.filled(1, 2, 1, 2);
        q.conflict(0, 1);
        due.steps(q, 4, 3);
        noneCanBe(due, q);
    }

    private static void onlyGroupsBehindAreAnswered(Due due) {
        MergeQueue q = Made.asked(2, 3, 1, 7, 3);
        q.answer(1, true);
        q.answer(2, false);
        noneCanBe(due, q);
    }

    private static void noneCanBe(Due due, MergeQueue q) {
        due.unchanged(q, () -> due.steps(q, 0, 0));
    }
}
