/** Promise 3: conflict. */
public final class Promise03ConflictTest {
    private static final int[] EVERY_PLACE = {Made.TREE, Made.OUT_BY_1, Made.OUT_BY_2, Made.OUT_BY_3,
        Made.GROUPED, Made.WAITING};
    private static final String TOLD = "Two CHANGES CONFLICT from now on: 1";
    private static final String NONE_SUCH = "- 1 if there are none such";
    private static final String GROUP_OR_OUT = "one is in a GROUP or OUT";
    private static final String ALREADY = "else 0 if they do already";
    private static final String WITH_TREE = "(If one is in the TREE, the other one is OUT by 2 at once.)";

    public static void main(String[] args) {
        Promise p = new Promise("Promise 3: conflict");
        p.says(TOLD, "two that wait", Promise03ConflictTest::twoThatWait);
        p.says(TOLD, "either way round", Promise03ConflictTest::holdsEitherWayRound);
        p.says(TOLD, "the numbers at the edges", Promise03ConflictTest::numbersAtTheEdges);
        p.says(TOLD, "one with all the others", Promise03ConflictTest::allInConflictWithOne);
        p.says(NONE_SUCH, "one of them", Promise03ConflictTest::oneOfThemIsNone);
        p.says(NONE_SUCH, "both of them", Promise03ConflictTest::bothAreNone);
        p.says(NONE_SUCH, "nothing is kept for later", Promise03ConflictTest::nothingIsKeptForLater);
        p.says("they are one", "in every place", Promise03ConflictTest::theyAreOne);
        p.says(GROUP_OR_OUT, "in a GROUP, with one in every place", Promise03ConflictTest::oneIsInAGroup);
        p.says(GROUP_OR_OUT, "both in a GROUP", Promise03ConflictTest::bothAreInGroups);
        p.says(GROUP_OR_OUT, "in a GROUP, and they do already", Promise03ConflictTest::oneInAGroupAlready);
        p.says(GROUP_OR_OUT, "OUT by 1, 2 and 3, with one in every place", Promise03ConflictTest::oneIsOut);
        p.says(GROUP_OR_OUT, "OUT, and they do already", Promise03ConflictTest::oneOutAlready);
        p.says("or both are in the TREE", "both ways", Promise03ConflictTest::bothAreInTheTree);
        p.says(ALREADY, "both ways", Promise03ConflictTest::theyDoAlready);
        p.says(WITH_TREE, "both ways", Promise03ConflictTest::oneIsInTheTree);
        p.says(WITH_TREE, "no other one", Promise03ConflictTest::noOtherGoesOut);
        p.finish();
    }

    private static void twoThatWait(Due due) {
        MergeQueue q = Made.filled(8, 1, 1, 3);
        due.is("conflict(0, 1)", q.conflict(0, 1), 1);
        due.is("all wait still", View.waiting(q), "0,1,2");
        due.steps(q, 4);
        due.is("groups", View.groups(q), "0:0,2/0+0");
    }

    private static void holdsEitherWayRound(Due due) {
        MergeQueue q = Made.filled(8, 1, 1, 3);
        due.is("conflict(2, 0)", q.conflict(2, 0), 1);
        due.steps(q, 4);
        due.is("groups", View.groups(q), "0:0,1/0+0");
    }

    /** A number above 31 must not fall onto one below. */
    private static void numbersAtTheEdges(Due due) {
        MergeQueue q = Made.filled(8, 1, 1, 40);
        due.is("conflict(0, 39)", q.conflict(0, 39), 1);
        due.is("conflict(39, 38)", q.conflict(39, 38), 1);
        due.is("conflict(32, 1)", q.conflict(32, 1), 1);
        due.is("conflict(0, 7)", q.conflict(0, 7), 1);
        due.is("conflict(7, 39)", q.conflict(7, 39), 1);
        due.is("conflict(0, 1)", q.conflict(0, 1), 1);
        due.is("conflict(6, 38)", q.conflict(6, 38), 1);
        due.is("conflict(0, 32)", q.conflict(0, 32), 1);
        due.is("conflict(39, 0)", q.conflict(39, 0), 0);
    }

    private static void allInConflictWithOne(Due due) {
        MergeQueue q = Made.filled(8, 1, 1, 40);
        for (int other = 0; other < 39; other++) {
            due.is("conflict(39, " + other + ")", q.conflict(39, other), 1);
        }
        q.jump(39);
        Made.tryNext(q, true);
        due.is("landed", View.landed(q), "39");
        due.is("waiting", View.waiting(q), "");
        for (int other = 0; other < 39; other++) {
            due.is("change " + other, View.change(q, other), "3 2 39");
        }
    }

    private static void oneOfThemIsNone(Due due) {
        for (int place : EVERY_PLACE) {
            for (int none : Outside.below()) {
                refused(due, none, place);
            }
            for (int none : Outside.from(Made.NO_SUCH)) {
                refused(due, none, place);
            }
        }
    }

    private static void bothAreNone(Due due) {
        refused(due, -1, -2);
        refused(due, -1, Made.NO_SUCH);
        refused(due, Made.NO_SUCH, Made.NO_SUCH + 1);
        refused(due, Made.NO_SUCH, Made.NO_SUCH);
        refused(due, -1, -1);
    }

    private static void nothingIsKeptForLater(Due due) {
        MergeQueue q = Made.filled(8, 1, 1, 2);
        due.is("conflict(0, 2)", q.conflict(0, 2), -1);
        q.change(5, 0);
        due.steps(q, 4);
        due.is("groups", View.groups(q), "0:0,1,2/0+0");
    }

    private static void theyAreOne(Due due) {
        for (int place : EVERY_PLACE) {
            refused(due, place, place);
        }
    }

    private static void oneIsInAGroup(Due due) {
        for (int place : EVERY_PLACE) {
            refused(due, Made.GROUPED, place);
        }
    }

    private static void bothAreInGroups(Due due) {
        MergeQueue q = Made.asked(2, 2, 1, 4, 2);
        due.unchanged(q, () -> {
            due.is("in the same one", q.conflict(0, 1), -1);
            due.is("in two of them", q.conflict(0, 2), -1);
            due.is("in two of them, the other way", q.conflict(3, 1), -1);
        });
    }

    private static void oneInAGroupAlready(Due due) {
        MergeQueue q = Made.filled(1, 1, 1, 2);
        q.conflict(0, 1);
        due.steps(q, 4);
        due.is("conflict(0, 1)", q.conflict(0, 1), -1);
        due.is("conflict(1, 0)", q.conflict(1, 0), -1);
    }

    private static void oneIsOut(Due due) {
        for (int out : new int[] {Made.OUT_BY_1, Made.OUT_BY_2, Made.OUT_BY_3}) {
            for (int place : EVERY_PLACE) {
                refused(due, out, place);
            }
        }
    }

    private static void oneOutAlready(Due due) {
        MergeQueue q = Made.filled(1, 1, 1, 3);
        q.conflict(0, 1);
        q.conflict(2, 1);
        q.leave(1);
        due.is("conflict(0, 1)", q.conflict(0, 1), -1);
        due.is("conflict(1, 2)", q.conflict(1, 2), -1);
        due.is("in the tree and out by it", Made.everyPlace().conflict(Made.TREE, Made.OUT_BY_2), -1);
    }

    private static void bothAreInTheTree(Due due) {
        refused(due, Made.TREE, Made.TREE_NEXT);
    }

    private static void theyDoAlready(Due due) {
        MergeQueue q = Made.filled(8, 1, 1, 4);
        q.conflict(0, 2);
        due.unchanged(q, () -> {
            due.is("conflict(0, 2) again", q.conflict(0, 2), 0);
            due.is("conflict(2, 0)", q.conflict(2, 0), 0);
        });
        due.is("conflict(2, 1)", q.conflict(2, 1), 1);
        due.is("conflict(0, 2) once more", q.conflict(0, 2), 0);
    }

    private static void oneIsInTheTree(Due due) {
        MergeQueue q = Made.everyPlace();
        due.is("the first in the tree", q.conflict(Made.TREE, Made.WAITING), 1);
        due.is("it is out", View.change(q, Made.WAITING), "3 2 " + Made.TREE);
        due.is("the second in the tree", q.conflict(Made.WAITING_NEXT, Made.TREE_NEXT), 1);
        due.is("it is out", View.change(q, Made.WAITING_NEXT), "3 2 " + Made.TREE_NEXT);
        due.is("none waits", View.waiting(q), "");
        due.is("the tree is as it was", View.landed(q), Made.TREE + "," + Made.TREE_NEXT);
        due.is("the one of the tree", View.change(q, Made.TREE), "2 0 -1");
    }

    private static void noOtherGoesOut(Due due) {
        MergeQueue q = Made.filled(1, 1, 1, 5);
        q.conflict(2, 3);
        Made.tryNext(q, true);
        due.is("conflict(0, 2)", q.conflict(0, 2), 1);
        due.is("waiting", View.waiting(q), "1,3,4");
    }

    /** Both ways round; a new object each, since one is used for 512 calls at most. */
    private static void refused(Due due, int a, int b) {
        MergeQueue q = Made.everyPlace();
        due.unchanged(q, () -> {
            due.is("conflict(" + a + ", " + b + ")", q.conflict(a, b), -1);
            due.is("conflict(" + b + ", " + a + ")", q.conflict(b, a), -1);
        });
    }
}
