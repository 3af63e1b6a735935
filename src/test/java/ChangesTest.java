/** Promises 1 to 6 and 12, 14, 15: new objects, changes that wait, and what is done to them. */
public final class ChangesTest {
    private static final Due DUE = new Due();
    private static final int NONE = MergeQueue.NONE;

    public static void main(String[] args) {
        newObjectIsEmpty();
        mostIsHeldInItsRange();
        widthIsHeldInItsRange();
        againIsHeldInItsRange();
        changesAreNumbered();
        fortyChangesAreTheMost();
        thoseGoneCountAmongTheForty();
        orderGoesByRankAndNumber();
        jumpedGoInFront();
        jumpIsRefused();
        conflictIsToldOnce();
        conflictIsRefused();
        conflictWithTheTree();
        leaveWhileWaiting();
        leaveAGroup();
        leaveTheLastOfAGroup();
        leaveBeginsAnewWhateverTheState();
        leaveIsRefused();
        pauseToggles();
        DUE.finish();
    }

    private static void newObjectIsEmpty() {
        MergeQueue q = new MergeQueue(2, 2, 2);
        DUE.is("groups of a new one", q.groups(), 0);
        DUE.is("waiting(0) of a new one", q.waiting(0), NONE);
        DUE.is("landed(0) of a new one", q.landed(0), NONE);
        DUE.is("where(0) of a new one", q.where(0), NONE);
        DUE.is("step of a new one", q.step(), 0);
        for (int what = 0; what < 4; what++) {
            DUE.is("counted of a new one", q.counted(what), 0);
        }
        DUE.is("pause(false) of a new one", q.pause(false), false);
    }

    private static void mostIsHeldInItsRange() {
        int[] given = {Integer.MIN_VALUE, -1, 0, 1, 2, 7, 8, 9, Integer.MAX_VALUE};
        int[] due = {1, 1, 1, 1, 2, 7, 8, 8, 8};
        for (int i = 0; i < given.length; i++) {
            MergeQueue q = Made.filled(given[i], 1, 1, 20);
            q.step();
            DUE.is("size with most " + given[i], q.group(0, 1), due[i]);
        }
    }

    private static void widthIsHeldInItsRange() {
        int[] given = {Integer.MIN_VALUE, -1, 0, 1, 2, 3, 4, 5, Integer.MAX_VALUE};
        int[] due = {1, 1, 1, 1, 2, 3, 4, 4, 4};
        for (int i = 0; i < given.length; i++) {
            MergeQueue q = Made.filled(1, given[i], 1, 20);
            for (int k = 0; k < 20; k++) {
                q.step();
            }
            DUE.is("groups with width " + given[i], q.groups(), due[i]);
        }
    }

    private static void againIsHeldInItsRange() {
        int[] given = {Integer.MIN_VALUE, -1, 0, 1, 2, 3, 4, Integer.MAX_VALUE};
        int[] due = {1, 1, 1, 1, 2, 3, 3, 3};
        for (int i = 0; i < given.length; i++) {
            MergeQueue q = Made.filled(1, 1, given[i], 1);
            DUE.steps(q, 4, 3);
            int asked = 1;
            while (asked < 20 && q.answer(0, false) == 1) {
                asked++;
            }
            DUE.is("failures with again " + given[i], asked, due[i]);
        }
    }

    private static void changesAreNumbered() {
        MergeQueue q = new MergeQueue(2, 2, 2);
        DUE.is("change(0, 0)", q.change(0, 0), 0);
        DUE.is("change(-1, 1)", q.change(-1, 1), NONE);
        DUE.is("change(10, 1)", q.change(10, 1), NONE);
        DUE.is("change(MIN, 1)", q.change(Integer.MIN_VALUE, 1), NONE);
        DUE.is("change(MAX, 1)", q.change(Integer.MAX_VALUE, 1), NONE);
        DUE.is("where(1) after refusals", q.where(1), NONE);
        DUE.is("change(9, -1)", q.change(9, -1), 1);
        DUE.is("where(0)", View.change(q, 0), "0 0 -1");
        DUE.is("waiting", View.waiting(q), "1,0");
    }

    private static void fortyChangesAreTheMost() {
        MergeQueue q = new MergeQueue(2, 2, 2);
        for (int i = 0; i < 40; i++) {
            DUE.is("change " + i, q.change(i % 10, i), i);
        }
        DUE.is("change 40", q.change(5, 5), NONE);
        DUE.is("where(39)", q.where(39), 0);
        DUE.is("where(40)", q.where(40), NONE);
        DUE.is("waiting(39)", q.waiting(39), 30);
        DUE.is("waiting(40)", q.waiting(40), NONE);
        DUE.is("jump(39)", q.jump(39), true);
        DUE.is("waiting(0)", q.waiting(0), 39);
        DUE.is("conflict(38, 39)", q.conflict(38, 39), 1);
        DUE.is("conflict(39, 38)", q.conflict(39, 38), 0);
        DUE.is("conflict(39, 40)", q.conflict(39, 40), -1);
    }

    private static void thoseGoneCountAmongTheForty() {
        MergeQueue q = Made.filled(1, 1, 1, 40);
        DUE.is("leave(7)", q.leave(7), true);
        DUE.is("change after one left", q.change(5, 5), NONE);
    }

    private static void orderGoesByRankAndNumber() {
        MergeQueue q = new MergeQueue(2, 2, 2);
        int[] ranks = {3, 9, 0, 3, 9, 0, 4};
        for (int rank : ranks) {
            q.change(rank, 0);
        }
        DUE.is("waiting", View.waiting(q), "1,4,6,0,3,2,5");
        DUE.is("waiting(-1)", q.waiting(-1), NONE);
        DUE.is("waiting(7)", q.waiting(7), NONE);
    }

    private static void jumpedGoInFront() {
        MergeQueue q = new MergeQueue(2, 2, 2);
        int[] ranks = {0, 9, 1, 5};
        for (int rank : ranks) {
            q.change(rank, 0);
        }
        DUE.is("jump(2)", q.jump(2), true);
        DUE.is("jump(0)", q.jump(0), true);
        DUE.is("jump(1)", q.jump(1), true);
        DUE.is("waiting", View.waiting(q), "2,0,1,3");
        q.change(9, 0);
        DUE.is("waiting", View.waiting(q), "2,0,1,4,3");
        DUE.steps(q, 4);
        DUE.is("groups", View.groups(q), "0:2,0/0+0");
    }

    private static void jumpIsRefused() {
        MergeQueue q = Made.filled(1, 1, 1, 3);
        DUE.is("jump(1)", q.jump(1), true);
        DUE.is("jump(1) again", q.jump(1), false);
        DUE.is("jump(-1)", q.jump(-1), false);
        DUE.is("jump(3)", q.jump(3), false);
        q.jump(0);
        DUE.is("a second jump moves nothing", View.waiting(q), "1,0,2");
        DUE.steps(q, 4);
        DUE.is("jump of one in a group", q.jump(1), false);
        DUE.steps(q, 3);
        q.answer(0, true);
        DUE.steps(q, 1);
        DUE.is("jump of one in the tree", q.jump(1), false);
        q.leave(2);
        DUE.is("jump of one that is out", q.jump(2), false);
    }

    private static void conflictIsToldOnce() {
        MergeQueue q = Made.filled(8, 1, 1, 4);
        DUE.is("conflict(0, 2)", q.conflict(0, 2), 1);
        DUE.is("conflict(0, 2) again", q.conflict(0, 2), 0);
        DUE.is("conflict(2, 0)", q.conflict(2, 0), 0);
        DUE.is("conflict(1, 2)", q.conflict(1, 2), 1);
        DUE.is("both still wait", View.waiting(q), "0,1,2,3");
    }

    private static void conflictIsRefused() {
        MergeQueue q = Made.filled(1, 1, 1, 5);
        DUE.is("conflict(1, 1)", q.conflict(1, 1), -1);
        DUE.is("conflict(-1, 1)", q.conflict(-1, 1), -1);
        DUE.is("conflict(1, -1)", q.conflict(1, -1), -1);
        DUE.is("conflict(1, 5)", q.conflict(1, 5), -1);
        DUE.is("conflict(5, 6)", q.conflict(5, 6), -1);
        DUE.is("conflict(7, 7)", q.conflict(7, 7), -1);
        q.conflict(0, 4);
        q.conflict(3, 4);
        DUE.steps(q, 4);
        DUE.is("told already, but one is in a group", q.conflict(0, 4), -1);
        DUE.is("the other way round", q.conflict(4, 0), -1);
        DUE.is("new, but one is in a group", q.conflict(1, 0), -1);
        DUE.steps(q, 3);
        q.answer(0, true);
        DUE.steps(q, 1, 4, 3);
        DUE.is("one in the tree, one in a group", q.conflict(0, 1), -1);
        q.answer(0, true);
        DUE.steps(q, 1);
        DUE.is("both in the tree", q.conflict(0, 1), -1);
        DUE.is("one is out", View.change(q, 4), "3 2 0");
        DUE.is("told already, but one is out", q.conflict(3, 4), -1);
        DUE.is("one in the tree, one out", q.conflict(1, 4), -1);
        DUE.is("still by the first", View.change(q, 4), "3 2 0");
    }

    private static void conflictWithTheTree() {
        MergeQueue q = Made.filled(2, 1, 1, 6);
        DUE.steps(q, 4, 3);
        q.answer(0, true);
        DUE.steps(q, 1);
        DUE.is("landed", View.landed(q), "0,1");
        DUE.is("conflict(3, 1)", q.conflict(3, 1), 1);
        DUE.is("change 3", View.change(q, 3), "3 2 1");
        DUE.is("conflict(0, 5)", q.conflict(0, 5), 1);
        DUE.is("change 5", View.change(q, 5), "3 2 0");
        DUE.is("change 1", View.change(q, 1), "2 0 -1");
        DUE.is("waiting", View.waiting(q), "2,4");
    }

    private static void leaveWhileWaiting() {
        MergeQueue q = Made.filled(2, 1, 1, 4);
        DUE.steps(q, 4, 3);
        DUE.is("leave(3)", q.leave(3), true);
        DUE.is("change 3", View.change(q, 3), "3 3 -1");
        DUE.is("waiting", View.waiting(q), "2");
        DUE.is("no group begins anew", View.groups(q), "1:0,1/0+0");
        DUE.is("counted(2)", q.counted(2), 0);
    }

    private static void leaveAGroup() {
        MergeQueue q = Made.filled(3, 3, 3, 9);
        DUE.steps(q, 4, 3, 4, 3, 4, 3);
        q.answer(0, false);
        q.answer(1, false);
        q.answer(2, false);
        q.answer(2, false);
        DUE.is("leave(4)", q.leave(4), true);
        DUE.is("groups", View.groups(q), "1:0,1,2/1+0 0:3,5/0+3 0:6,7,8/0+5");
        DUE.is("change 4", View.change(q, 4), "3 3 -1");
        DUE.is("counted(2)", q.counted(2), 2);
        DUE.is("leave(0)", q.leave(0), true);
        DUE.is("groups", View.groups(q), "0:1,2/0+0 0:3,5/0+2 0:6,7,8/0+4");
        DUE.is("counted(2)", q.counted(2), 3);
        DUE.steps(q, 3, 3, 3);
        DUE.is("leave of the first of the last group", q.leave(6), true);
        DUE.is("groups", View.groups(q), "1:1,2/0+0 1:3,5/0+2 0:7,8/0+4");
        DUE.is("counted(2)", q.counted(2), 4);
    }

    private static void leaveTheLastOfAGroup() {
        MergeQueue q = Made.filled(1, 3, 1, 3);
        DUE.steps(q, 4, 3, 4, 3, 4, 3);
        DUE.is("leave(0)", q.leave(0), true);
        DUE.is("groups", View.groups(q), "0:1/0+0 0:2/0+1");
        DUE.is("the empty one began anew, too", q.counted(2), 3);
        DUE.is("leave(2)", q.leave(2), true);
        DUE.is("groups", View.groups(q), "0:1/0+0");
        DUE.is("leave(1)", q.leave(1), true);
        DUE.is("groups()", q.groups(), 0);
        DUE.is("those that were new don't count", q.counted(2), 3);
    }

    private static void leaveBeginsAnewWhateverTheState() {
        MergeQueue q = Made.filled(2, 4, 2, 8);
        DUE.steps(q, 4, 3, 4, 3, 4, 3, 4, 3);
        q.answer(0, false);
        q.answer(0, true);
        q.answer(1, false);
        q.answer(1, false);
        q.answer(2, false);
        DUE.is("groups", View.groups(q), "3:0,1/1+0 2:2,3/2+2 1:4,5/1+4 1:6,7/0+6");
        DUE.is("leave(1)", q.leave(1), true);
        DUE.is("groups", View.groups(q), "0:0/0+0 0:2,3/0+1 0:4,5/0+3 0:6,7/0+5");
        DUE.is("only asked ones count", q.counted(2), 2);
    }

    private static void leaveIsRefused() {
        MergeQueue q = Made.filled(1, 1, 1, 2);
        DUE.is("leave(-1)", q.leave(-1), false);
        DUE.is("leave(2)", q.leave(2), false);
        DUE.is("leave(1)", q.leave(1), true);
        DUE.is("leave(1) again", q.leave(1), false);
        DUE.steps(q, 4, 3);
        q.answer(0, true);
        DUE.steps(q, 1);
        DUE.is("leave of one in the tree", q.leave(0), false);
        DUE.is("change 0", View.change(q, 0), "2 0 -1");
    }

    private static void pauseToggles() {
        MergeQueue q = Made.filled(1, 2, 1, 3);
        DUE.is("pause(false)", q.pause(false), false);
        DUE.is("pause(true)", q.pause(true), true);
        DUE.is("pause(true) again", q.pause(true), false);
        DUE.steps(q, 0);
        DUE.is("pause(false)", q.pause(false), true);
        DUE.is("pause(false) again", q.pause(false), false);
        DUE.steps(q, 4);
    }
}
