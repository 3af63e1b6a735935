/** Promise 12: waiting, and ORDER in the Terms. */
public final class Promise12WaitingTest {
    private static final int NONE = MergeQueue.NONE;
    private static final String IN_ORDER = "The k-th CHANGE that WAITS, in ORDER";
    private static final String NONE_SUCH = "NONE if there is none such";

    public static void main(String[] args) {
        Promise p = new Promise("Promise 12: waiting");
        p.says("those that have JUMPED, the one that did first in front", "above RANK and number",
            Promise12WaitingTest::jumpedInFront);
        p.says("then the others", "one that comes later", Promise12WaitingTest::laterOnesBehindTheJumped);
        p.says("the greater RANK in front", "9 down to 0", Promise12WaitingTest::greaterRankInFront);
        p.says("of like ones the lesser number", "in each RANK", Promise12WaitingTest::lesserNumberInFront);
        p.says(IN_ORDER, "the first and the last of forty", Promise12WaitingTest::firstAndLastOfForty);
        p.says(IN_ORDER, "only those that wait", Promise12WaitingTest::onlyThoseThatWait);
        p.says(NONE_SUCH, "an empty row", Promise12WaitingTest::emptyRow);
        p.says(NONE_SUCH, "too small", Promise12WaitingTest::tooSmall);
        p.says(NONE_SUCH, "too large", Promise12WaitingTest::tooLarge);
        p.finish();
    }

    private static void jumpedInFront(Due due) {
        MergeQueue q = Made.ranked(2, 2, 2, 0, 9, 1, 5);
        q.jump(2);
        q.jump(0);
        due.is("waiting", View.waiting(q), "2,0,1,3");
        q.jump(1);
        due.is("waiting", View.waiting(q), "2,0,1,3");
        q.jump(3);
        due.is("waiting", View.waiting(q), "2,0,1,3");
    }

    private static void laterOnesBehindTheJumped(Due due) {
        MergeQueue q = Made.ranked(2, 2, 2, 0, 1);
        q.jump(0);
        q.change(9, 0);
        due.is("waiting", View.waiting(q), "0,2,1");
    }

    private static void greaterRankInFront(Due due) {
        MergeQueue q = Made.ranked(2, 2, 2, 4, 0, 9, 7, 1, 8, 2, 6, 3, 5);
        due.is("waiting", View.waiting(q), "2,5,3,7,9,0,8,6,4,1");
    }

    private static void lesserNumberInFront(Due due) {
        MergeQueue q = Made.ranked(2, 2, 2, 9, 0, 9, 5, 0, 5, 9);
        due.is("waiting", View.waiting(q), "0,2,6,3,5,1,4");
    }

    private static void firstAndLastOfForty(Due due) {
        MergeQueue q = new MergeQueue(2, 2, 2);
        for (int i = 0; i < 40; i++) {
            q.change(i % 10, 0);
        }
        due.is("waiting(0)", q.waiting(0), 9);
        due.is("waiting(39)", q.waiting(39), 30);
        due.is("waiting(40)", q.waiting(40), NONE);
    }

    private static void onlyThoseThatWait(Due due) {
        MergeQueue q = Made.everyPlace();
        due.is("waiting(0)", q.waiting(0), Made.WAITING);
        due.is("waiting(1)", q.waiting(1), Made.WAITING_NEXT);
        due.is("waiting(2)", q.waiting(2), NONE);
    }

    private static void emptyRow(Due due) {
        due.is("of a new one", new MergeQueue(1, 1, 1).waiting(0), NONE);
        MergeQueue q = Made.filled(2, 1, 1, 2);
        due.steps(q, 4);
        due.is("when all are in a group", q.waiting(0), NONE);
    }

    private static void tooSmall(Due due) {
        due.each("waiting", Outside.below(), Made.filled(1, 1, 1, 3)::waiting, NONE);
    }

    private static void tooLarge(Due due) {
        MergeQueue q = Made.filled(1, 1, 1, 3);
        due.is("the last", q.waiting(2), 2);
        due.each("waiting", Outside.from(3), q::waiting, NONE);
    }
}
