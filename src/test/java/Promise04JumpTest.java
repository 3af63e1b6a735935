/** Promise 4: jump. */
public final class Promise04JumpTest {
    private static final String JUMPS = "A CHANGE that WAITS JUMPS";
    private static final String WAITS_NOT = "false if it doesn't WAIT";
    private static final String HAS_JUMPED = "or has JUMPED";

    public static void main(String[] args) {
        Promise p = new Promise("Promise 4: jump");
        p.says(JUMPS, "the last in front of all", Promise04JumpTest::lastInFrontOfAll);
        p.says(JUMPS, "the only one", Promise04JumpTest::theOnlyOne);
        p.says(JUMPS, "all forty", Promise04JumpTest::allForty);
        p.says(WAITS_NOT, "none such", Promise04JumpTest::noneSuch);
        p.says(WAITS_NOT, "in a GROUP", Promise04JumpTest::inAGroup);
        p.says(WAITS_NOT, "in the TREE", Promise04JumpTest::inTheTree);
        p.says(WAITS_NOT, "OUT by 1, 2 and 3", Promise04JumpTest::out);
        p.says(HAS_JUMPED, "at once", Promise04JumpTest::hasJumped);
        p.says(HAS_JUMPED, "others since then", Promise04JumpTest::hasJumpedBeforeOthers);
        p.finish();
    }

    private static void lastInFrontOfAll(Due due) {
        MergeQueue q = Made.ranked(2, 1, 1, 9, 9, 0);
        due.is("jump(2)", q.jump(2), true);
        due.is("waiting", View.waiting(q), "2,0,1");
        due.is("it waits still", View.change(q, 2), "0 0 -1");
    }

    private static void theOnlyOne(Due due) {
        MergeQueue q = Made.ranked(2, 1, 1, 5);
        due.is("jump(0)", q.jump(0), true);
        due.is("waiting", View.waiting(q), "0");
    }

    private static void allForty(Due due) {
        MergeQueue q = Made.filled(8, 1, 1, 40);
        for (int change = 39; change >= 0; change--) {
            due.is("jump(" + change + ")", q.jump(change), true);
        }
        for (int k = 0; k < 40; k++) {
            due.is("waiting(" + k + ")", q.waiting(k), 39 - k);
        }
        due.is("jump(0) again", q.jump(0), false);
        due.is("jump(39) again", q.jump(39), false);
    }

    private static void noneSuch(Due due) {
        refused(due, Outside.below());
        refused(due, Outside.from(Made.NO_SUCH));
    }

    private static void inAGroup(Due due) {
        refused(due, Made.GROUPED);
    }

    private static void inTheTree(Due due) {
        refused(due, Made.TREE, Made.TREE_NEXT);
    }

    private static void out(Due due) {
        refused(due, Made.OUT_BY_1, Made.OUT_BY_2, Made.OUT_BY_3);
    }

    private static void hasJumped(Due due) {
        MergeQueue q = Made.filled(2, 1, 1, 3);
        q.jump(1);
        due.unchanged(q, () -> due.is("jump(1) again", q.jump(1), false));
    }

    private static void hasJumpedBeforeOthers(Due due) {
        MergeQueue q = Made.filled(2, 1, 1, 4);
        q.jump(2);
        q.jump(3);
        due.is("jump(3) again", q.jump(3), false);
        due.is("jump(2) again", q.jump(2), false);
        due.is("waiting", View.waiting(q), "2,3,0,1");
        due.is("jump(1)", q.jump(1), true);
        due.is("waiting", View.waiting(q), "2,3,1,0");
    }

    private static void refused(Due due, int... changes) {
        MergeQueue q = Made.everyPlace();
        due.unchanged(q, () -> due.each("jump", changes, change -> q.jump(change) ? 1 : 0, 0));
    }
}
