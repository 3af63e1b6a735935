/** Promise 5: leave. */
public final class Promise05LeaveTest {
    private static final String OUT_BY_3 = "A CHANGE that WAITS or is in a GROUP is OUT by 3";
    private static final String ANEW = "this GROUP and all behind BEGIN ANEW";
    private static final String WITHOUT = "without it";
    private static final String EMPTY = "(an empty one goes)";
    private static final String NEITHER = "False if it is neither";

    public static void main(String[] args) {
        Promise p = new Promise("Promise 5: leave");
        p.says(OUT_BY_3, "it waits, and no GROUP begins anew", Promise05LeaveTest::waitingOneLeaves);
        p.says(OUT_BY_3, "the only one that waits", Promise05LeaveTest::onlyWaitingOneLeaves);
        p.says(OUT_BY_3, "one that has jumped", Promise05LeaveTest::jumpedOneLeaves);
        p.says(OUT_BY_3, "in a GROUP, and no hindrance any more", Promise05LeaveTest::groupedOneLeaves);
        p.says(ANEW, "the first one", Promise05LeaveTest::firstGroup);
        p.says(ANEW, "one between", Promise05LeaveTest::groupBetween);
        p.says(ANEW, "the last one", Promise05LeaveTest::lastGroup);
        p.says(ANEW, "whatever the STATE", Promise05LeaveTest::whateverTheState);
        p.says(WITHOUT, "the first, one between, the last", Promise05LeaveTest::othersStayInOrder);
        p.says(EMPTY, "the only one", Promise05LeaveTest::onlyGroupGoes);
        p.says(EMPTY, "the first one", Promise05LeaveTest::emptyFirstGroup);
        p.says(EMPTY, "one between", Promise05LeaveTest::emptyGroupBetween);
        p.says(EMPTY, "the last one", Promise05LeaveTest::emptyLastGroup);
        p.says(EMPTY, "one that passed, or failed", Promise05LeaveTest::emptyAnsweredGroup);
        p.says(NEITHER, "none such", Promise05LeaveTest::noneSuch);
        p.says(NEITHER, "in the TREE", Promise05LeaveTest::inTheTree);
        p.says(NEITHER, "OUT by 1, 2 and 3", Promise05LeaveTest::out);
        p.finish();
    }

    private static void waitingOneLeaves(Due due) {
        MergeQueue q = Made.asked(2, 1, 2, 5, 1);
        q.answer(0, false);
        due.is("leave(3)", q.leave(3), true);
        due.is("change 3", View.change(q, 3), "3 3 -1");
        due.is("waiting", View.waiting(q), "2,4");
        due.is("groups", View.groups(q), "1:0,1/1+0");
        due.is("counted(2)", q.counted(2), 0);
    }

    private static void onlyWaitingOneLeaves(Due due) {
        MergeQueue q = Made.filled(2, 1, 1, 1);
        due.is("leave(0)", q.leave(0), true);
        due.is("waiting", View.waiting(q), "");
        due.is("step()", q.step(), 0);
    }

    private static void jumpedOneLeaves(Due due) {
        MergeQueue q = Made.filled(2, 1, 1, 4);
        q.jump(2);
        q.jump(3);
        due.is("leave(2)", q.leave(2), true);
        due.is("waiting", View.waiting(q), "3,0,1");
    }

    private static void groupedOneLeaves(Due due) {
        MergeQueue q = Made.filled(2, 2, 1, 2);
        q.conflict(0, 1);
        due.steps(q, 4, 3, 0);
        due.is("leave(0)", q.leave(0), true);
        due.is("change 0", View.change(q, 0), "3 3 -1");
        due.steps(q, 4);
        due.is("groups", View.groups(q), "0:1/0+0");
    }

    private static void firstGroup(Due due) {
        MergeQueue q = threeAskedThatFailedOnce();
        due.is("leave(1)", q.leave(1), true);
        due.is("groups", View.groups(q), "0:0,2/0+0 0:3,4,5/0+2 0:6,7,8/0+5");
        due.is("counted(2)", q.counted(2), 3);
    }

    private static void groupBetween(Due due) {
        MergeQueue q = threeAskedThatFailedOnce();
        due.is("leave(4)", q.leave(4), true);
        due.is("groups", View.groups(q), "1:0,1,2/1+0 0:3,5/0+3 0:6,7,8/0+5");
        due.is("counted(2)", q.counted(2), 2);
    }

    private static void lastGroup(Due due) {
        MergeQueue q = threeAskedThatFailedOnce();
        due.is("leave(7)", q.leave(7), true);
        due.is("groups", View.groups(q), "1:0,1,2/1+0 1:3,4,5/1+3 0:6,8/0+6");
        due.is("counted(2)", q.counted(2), 1);
    }

    private static void whateverTheState(Due due) {
        MergeQueue q = Made.everyState();
        due.is("before", View.groups(q), "1:0,1/0+0 3:2,3/0+2 2:4,5/1+4 0:6,7/0+6");
        due.is("leave(0)", q.leave(0), true);
        due.is("after", View.groups(q), "0:1/0+0 0:2,3/0+1 0:4,5/0+3 0:6,7/0+5");
        due.is("only the asked one counts", q.counted(2), 1);
    }

    private static void othersStayInOrder(Due due) {
        String[] left = {"0:1,2/0+0", "0:0,2/0+0", "0:0,1/0+0"};
        for (int change = 0; change < left.length; change++) {
            MergeQueue q = Made.asked(3, 1, 1, 3, 1);
            q.leave(change);
            due.is("groups without " + change, View.groups(q), left[change]);
            due.is("how many", q.group(0, 1), 2);
        }
    }

    private static void onlyGroupGoes(Due due) {
        MergeQueue q = Made.asked(2, 1, 1, 2, 1);
        q.leave(0);
        due.is("one stays", q.groups(), 1);
        q.leave(1);
        due.is("none stays", q.groups(), 0);
        due.is("step()", q.step(), 0);
    }

    private static void emptyFirstGroup(Due due) {
        MergeQueue q = Made.asked(1, 3, 1, 3, 3);
        due.is("leave(0)", q.leave(0), true);
        due.is("groups", View.groups(q), "0:1/0+0 0:2/0+1");
        due.is("the one that went began anew, too", q.counted(2), 3);
    }

    private static void emptyGroupBetween(Due due) {
        MergeQueue q = Made.asked(1, 3, 1, 3, 3);
        due.is("leave(1)", q.leave(1), true);
        due.is("groups", View.groups(q), "1:0/0+0 0:2/0+1");
        due.is("counted(2)", q.counted(2), 2);
    }

    private static void emptyLastGroup(Due due) {
        MergeQueue q = Made.asked(1, 3, 1, 3, 3);
        due.is("leave(2)", q.leave(2), true);
        due.is("groups", View.groups(q), "1:0/0+0 1:1/0+1");
        due.is("counted(2)", q.counted(2), 1);
    }

    private static void emptyAnsweredGroup(Due due) {
        for (boolean passes : new boolean[] {true, false}) {
            MergeQueue q = Made.asked(1, 2, 1, 2, 2);
            q.answer(0, passes);
            due.is("leave(0)", q.leave(0), true);
            due.is("groups", View.groups(q), "0:1/0+0");
            due.is("counted(2)", q.counted(2), 1);
            due.steps(q, 3);
        }
    }

    private static void noneSuch(Due due) {
        refused(due, Outside.below());
        refused(due, Outside.from(Made.NO_SUCH));
    }

    private static void inTheTree(Due due) {
        refused(due, Made.TREE, Made.TREE_NEXT);
    }

    private static void out(Due due) {
        refused(due, Made.OUT_BY_1, Made.OUT_BY_2, Made.OUT_BY_3);
    }

    private static MergeQueue threeAskedThatFailedOnce() {
        MergeQueue q = Made.asked(3, 3, 3, 9, 3);
        for (int group = 0; group < 3; group++) {
            q.answer(group, false);
        }
        return q;
    }

    private static void refused(Due due, int... changes) {
        MergeQueue q = Made.everyPlace();
        due.unchanged(q, () -> due.each("leave", changes, change -> q.leave(change) ? 1 : 0, 0));
    }
}
