/** Promise 17: counted. */
public final class Promise17CountedTest {
    private static final int NONE = MergeQueue.NONE;
    private static final String ANSWERS = "How many answers there were (what 0)";
    private static final String MADE_TWO = "GROUPS made two (1)";
    private static final String ANEW = "GROUPS that began anew being ASKED (2)";
    private static final String PARTS = "the PARTS of all CHANGES of the TREE together (3)";
    private static final String OTHER = "NONE for another what";

    public static void main(String[] args) {
        Promise p = new Promise("Promise 17: counted");
        p.says(ANSWERS, "none yet", Promise17CountedTest::nothingYet);
        p.says(ANSWERS, "passing and failing", Promise17CountedTest::passingAndFailing);
        p.says(ANSWERS, "refused ones are none", Promise17CountedTest::refusedAnswersAreNone);
        p.says(MADE_TWO, "each time", Promise17CountedTest::madeTwoEachTime);
        p.says(MADE_TWO, "not one of one CHANGE", Promise17CountedTest::oneOfOneIsNotMadeTwo);
        p.says(ANEW, "by HALVING", Promise17CountedTest::anewByHalving);
        p.says(ANEW, "when one of one CHANGE goes", Promise17CountedTest::anewWhenOneGoes);
        p.says(ANEW, "by leaving", Promise17CountedTest::anewByLeaving);
        p.says(ANEW, "not being NEW, FAILED or PASSED", Promise17CountedTest::otherStatesAreNotCounted);
        p.says(ANEW, "each time again", Promise17CountedTest::anewEachTimeAgain);
        p.says(PARTS, "an empty TREE", Promise17CountedTest::partsOfAnEmptyTree);
        p.says(PARTS, "the bits 0 and 31", Promise17CountedTest::bits0And31);
        p.says(PARTS, "shared ones once", Promise17CountedTest::sharedPartsOnce);
        p.says(PARTS, "all bits", Promise17CountedTest::allBits);
        p.says(PARTS, "of no others", Promise17CountedTest::partsOfNoOthers);
        p.says(OTHER, "too small", Promise17CountedTest::whatTooSmall);
        p.says(OTHER, "too large", Promise17CountedTest::whatTooLarge);
        p.finish();
    }

    private static void nothingYet(Due due) {
        MergeQueue q = Made.asked(2, 2, 2, 4, 2);
        for (int what = 0; what <= 3; what++) {
            due.is("counted(" + what + ")", q.counted(what), 0);
        }
    }

    private static void passingAndFailing(Due due) {
        MergeQueue q = Made.asked(1, 2, 3, 2, 2);
        q.answer(1, false);
        due.is("counted(0)", q.counted(0), 1);
        q.answer(1, false);
        q.answer(1, true);
        q.answer(0, true);
        due.is("counted(0)", q.counted(0), 4);
        due.steps(q, 1, 1);
        due.is("counted(0) when they have landed", q.counted(0), 4);
    }

    private static void refusedAnswersAreNone(Due due) {
        MergeQueue q = Made.everyState();
        due.is("before", q.counted(0), 2);
        for (int group : new int[] {-1, 1, 2, 3, 4}) {
            q.answer(group, true);
            q.answer(group, false);
        }
        due.is("after", q.counted(0), 2);
    }

    private static void madeTwoEachTime(Due due) {
        MergeQueue q = Made.asked(8, 1, 1, 8, 1);
        for (int halvings = 1; halvings <= 3; halvings++) {
            q.answer(0, false);
            due.steps(q, 2, 3);
            due.is("counted(1)", q.counted(1), halvings);
        }
    }

    private static void oneOfOneIsNotMadeTwo(Due due) {
        MergeQueue q = Made.asked(1, 1, 1, 1, 1);
        q.answer(0, false);
        due.steps(q, 2);
        due.is("counted(1)", q.counted(1), 0);
    }

    private static void anewByHalving(Due due) {
        MergeQueue q = Made.asked(2, 4, 1, 8, 4);
        q.answer(0, false);
        due.is("before", q.counted(2), 0);
        due.steps(q, 2);
        due.is("the three behind, not the failed one", q.counted(2), 3);
    }

    private static void anewWhenOneGoes(Due due) {
        MergeQueue q = Made.asked(1, 3, 1, 3, 3);
        q.answer(0, false);
        due.steps(q, 2);
        due.is("the two behind", q.counted(2), 2);
    }

    private static void anewByLeaving(Due due) {
        MergeQueue q = Made.asked(2, 3, 1, 7, 3);
        q.leave(6);
        due.is("one that waits leaves", q.counted(2), 0);
        q.leave(2);
        due.is("one of the second leaves", q.counted(2), 2);
        q.leave(0);
        due.is("one of the first leaves", q.counted(2), 3);
        q.leave(1);
        due.is("the new ones don't count again", q.counted(2), 3);
    }

    private static void otherStatesAreNotCounted(Due due) {
        MergeQueue q = Made.everyState();
        q.leave(3);
        due.is("passed, failed, new", q.counted(2), 0);
        q.leave(4);
        due.is("new", q.counted(2), 0);
    }

    private static void anewEachTimeAgain(Due due) {
        MergeQueue q = Made.asked(4, 1, 1, 4, 1);
        for (int times = 1; times <= 4; times++) {
            q.leave(times - 1);
            due.is("counted(2)", q.counted(2), times);
            q.step();
        }
    }

    private static void partsOfAnEmptyTree(Due due) {
        MergeQueue q = new MergeQueue(1, 1, 1);
        due.is("of a new one", q.counted(3), 0);
        q.change(5, -1);
        due.steps(q, 4, 3);
        q.answer(0, true);
        due.is("before it lands", q.counted(3), 0);
    }

    private static void bits0And31(Due due) {
        MergeQueue q = new MergeQueue(1, 1, 1);
        q.change(5, 1);
        q.change(5, 1 << 31);
        Made.tryNext(q, true);
        due.is("counted(3)", q.counted(3), 1);
        Made.tryNext(q, true);
        due.is("counted(3)", q.counted(3), 1 << 31 | 1);
    }

    private static void sharedPartsOnce(Due due) {
        MergeQueue q = new MergeQueue(4, 1, 1);
        q.change(5, 6);
        q.change(5, 3);
        q.change(5, 1 << 31);
        q.change(5, 1 << 31);
        Made.tryNext(q, true);
        due.is("counted(3)", q.counted(3), 1 << 31 | 7);
    }

    private static void allBits(Due due) {
        MergeQueue q = Made.filled(8, 1, 1, 32);
        for (int i = 0; i < 4; i++) {
            Made.tryNext(q, true);
        }
        due.is("counted(3)", q.counted(3), -1);
    }

    private static void partsOfNoOthers(Due due) {
        int parts = 1 << Made.TREE | 1 << Made.TREE_NEXT;
        due.is("counted(3)", Made.everyPlace().counted(3), parts);
    }

    private static void whatTooSmall(Due due) {
        due.each("counted", Outside.below(), Made.everyPlace()::counted, NONE);
    }

    private static void whatTooLarge(Due due) {
        due.each("counted", Outside.from(4), Made.everyPlace()::counted, NONE);
        due.each("counted of a new one", Outside.from(4), new MergeQueue(1, 1, 1)::counted, NONE);
    }
}
