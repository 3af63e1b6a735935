/** Promise 16: by. */
public final class Promise16ByTest {
    private static final int NONE = MergeQueue.NONE;
    private static final String FIRST = "the first one of the TREE, as it is now, that it CONFLICTS with";
    private static final String THEN = "by 1: how many CHANGES the TREE had then";
    private static final String OTHERS = "NONE for others";

    public static void main(String[] args) {
        Promise p = new Promise("Promise 16: by");
        p.says(FIRST, "not the first of the TREE", Promise16ByTest::notTheFirstOfTheTree);
        p.says(FIRST, "the first in order, not the least", Promise16ByTest::firstInOrderNotTheLeast);
        p.says(FIRST, "more land later", Promise16ByTest::moreLandLater);
        p.says(FIRST, "the last of a full TREE", Promise16ByTest::lastOfALongTree);
        p.says(THEN, "an empty TREE", Promise16ByTest::emptyTreeThen);
        p.says(THEN, "it grows later", Promise16ByTest::treeGrowsLater);
        p.says(THEN, "all others have landed", Promise16ByTest::allOthersHaveLanded);
        p.says(THEN, "in a conflict with one of the TREE's", Promise16ByTest::byOneInConflict);
        p.says(OTHERS, "it waits, is in a GROUP, in the TREE", Promise16ByTest::notOut);
        p.says(OTHERS, "OUT by 3", Promise16ByTest::outByThree);
        p.says(OTHERS, "none such", Promise16ByTest::noneSuch);
        p.finish();
    }

    private static void notTheFirstOfTheTree(Due due) {
        MergeQueue q = Made.filled(3, 1, 1, 4);
        q.conflict(3, 1);
        q.conflict(2, 3);
        Made.tryNext(q, true);
        due.is("landed", View.landed(q), "0,1,2");
        due.is("by(3)", q.by(3), 1);
    }

    private static void firstInOrderNotTheLeast(Due due) {
        MergeQueue q = Made.filled(2, 1, 1, 3);
        q.jump(1);
        q.conflict(2, 0);
        q.conflict(2, 1);
        Made.tryNext(q, true);
        due.is("landed", View.landed(q), "1,0");
        due.is("by(2)", q.by(2), 1);
    }

    private static void moreLandLater(Due due) {
        MergeQueue q = Made.filled(1, 1, 1, 3);
        q.jump(1);
        q.conflict(2, 0);
        q.conflict(2, 1);
        Made.tryNext(q, true);
        due.is("by(2)", q.by(2), 1);
        Made.tryNext(q, true);
        due.is("landed", View.landed(q), "1,0");
        due.is("by(2) later", q.by(2), 1);
    }

    private static void lastOfALongTree(Due due) {
        MergeQueue q = treeOf39(true);
        due.is("landed(38)", q.landed(38), 38);
        due.is("conflict(38, 39)", q.conflict(38, 39), 1);
        due.is("by(39)", q.by(39), 38);
    }

    private static void emptyTreeThen(Due due) {
        MergeQueue q = Made.filled(1, 1, 1, 2);
        Made.tryNext(q, false);
        due.is("change 0", View.change(q, 0), "3 1 0");
    }

    private static void treeGrowsLater(Due due) {
        MergeQueue q = Made.filled(1, 1, 1, 4);
        Made.tryNext(q, true);
        Made.tryNext(q, false);
        Made.tryNext(q, true);
        Made.tryNext(q, false);
        due.is("by(1)", q.by(1), 1);
        due.is("by(3)", q.by(3), 2);
    }

    private static void allOthersHaveLanded(Due due) {
        MergeQueue q = treeOf39(false);
        Made.tryNext(q, false);
        due.is("change 39", View.change(q, 39), "3 1 39");
    }

    private static void byOneInConflict(Due due) {
        MergeQueue q = Made.filled(1, 1, 1, 3);
        q.jump(2);
        q.conflict(2, 0);
        Made.tryNext(q, false);
        Made.tryNext(q, true);
        due.is("landed", View.landed(q), "0");
        due.is("change 2", View.change(q, 2), "3 1 0");
        Made.tryNext(q, true);
        due.is("change 2 later", View.change(q, 2), "3 1 0");
    }

    private static void notOut(Due due) {
        MergeQueue q = Made.everyPlace();
        due.is("one that waits", q.by(Made.WAITING), NONE);
        due.is("one in a group", q.by(Made.GROUPED), NONE);
        due.is("one in the tree", q.by(Made.TREE), NONE);
        q.conflict(Made.WAITING, Made.WAITING_NEXT);
        due.is("one that waits in a conflict", q.by(Made.WAITING), NONE);
        due.is("one of the tree in a conflict", q.by(Made.TREE), NONE);
    }

    private static void outByThree(Due due) {
        MergeQueue q = Made.filled(1, 1, 1, 2);
        q.conflict(0, 1);
        q.leave(1);
        Made.tryNext(q, true);
        due.is("change 1", View.change(q, 1), "3 3 -1");
    }

    private static void noneSuch(Due due) {
        due.each("by", Outside.below(), Made.everyPlace()::by, NONE);
        due.each("by", Outside.from(Made.NO_SUCH), Made.everyPlace()::by, NONE);
        due.is("by(0) of a new one", new MergeQueue(1, 1, 1).by(0), NONE);
    }

    /** Of forty changes all but the last have landed; that one waits, paused or not. */
    private static MergeQueue treeOf39(boolean paused) {
        MergeQueue q = Made.filled(8, 1, 1, 39);
        for (int i = 0; i < 5; i++) {
            Made.tryNext(q, true);
        }
        q.pause(paused);
        q.change(5, 0);
        return q;
    }
}
