/** Promises 7 to 11, 13, 16 and 17: the four kinds of a step, answers, and what is counted. */
public final class StepsTest {
    private static final Due DUE = new Due();
    private static final int NONE = MergeQueue.NONE;

    public static void main(String[] args) {
        formingTakesThoseInOrder();
        formingSkipsConflicts();
        formingSkipsConflictsWithGroupsInFront();
        formingNeedsOneThatFits();
        askingComesBeforeForming();
        askingIsBoundByWidth();
        askingStopsBehindAFailedGroup();
        askingGoesOnBehindAPassedGroup();
        landingKeepsOrderAndStates();
        landingSendsConflictsOut();
        landingWaitsForTheFirst();
        halvingGivesTheFirstOneMore();
        halvingDownToOne();
        halvingBeginsAnewBehind();
        outByOneBeginsAnewBehind();
        halvingWaitsForTheFirst();
        pauseStopsAskingAndFormingOnly();
        answersAreCounted();
        answerIsRefused();
        failuresStayWhenItPasses();
        groupAsksAreRefused();
        memberIsNone();
        byTellsTheFirstOfTheTree();
        byTellsTheTreeThen();
        partsAreJoined();
        sevenGroupsStandAtOnce();
        allFortyLand();
        DUE.finish();
    }

    private static void formingTakesThoseInOrder() {
        MergeQueue q = new MergeQueue(3, 2, 1);
        int[] ranks = {1, 7, 3, 9, 7};
        for (int rank : ranks) {
            q.change(rank, 0);
        }
        q.jump(0);
        DUE.steps(q, 4);
        DUE.is("groups", View.groups(q), "0:0,3,1/0+0");
        DUE.is("waiting", View.waiting(q), "4,2");
        DUE.is("change 3", View.change(q, 3), "1 0 -1");
        DUE.steps(q, 3, 4);
        DUE.is("groups", View.groups(q), "1:0,3,1/0+0 0:4,2/0+3");
        DUE.is("waiting", View.waiting(q), "");
    }

    private static void formingSkipsConflicts() {
        MergeQueue q = Made.filled(3, 1, 1, 6);
        q.conflict(0, 1);
        q.conflict(2, 3);
        DUE.steps(q, 4);
        DUE.is("groups", View.groups(q), "0:0,2,4/0+0");
        DUE.is("waiting", View.waiting(q), "1,3,5");
    }

    private static void formingSkipsConflictsWithGroupsInFront() {
        MergeQueue q = Made.filled(2, 3, 1, 6);
        q.conflict(0, 2);
        q.conflict(3, 4);
        q.conflict(1, 5);
        DUE.steps(q, 4, 3, 4);
        DUE.is("groups", View.groups(q), "1:0,1/0+0 0:3/0+2");
        DUE.is("waiting", View.waiting(q), "2,4,5");
        DUE.steps(q, 3, 0);
    }

    private static void formingNeedsOneThatFits() {
        MergeQueue q = Made.filled(2, 2, 1, 2);
        q.conflict(0, 1);
        DUE.steps(q, 4, 3, 0);
        DUE.is("groups()", q.groups(), 1);
        q.leave(0);
        DUE.steps(q, 4);
        DUE.is("a conflict with one that is out is none", View.groups(q), "0:1/0+0");
    }

    private static void askingComesBeforeForming() {
        MergeQueue q = Made.filled(1, 2, 1, 2);
        DUE.steps(q, 4, 3, 4, 3, 0);
        DUE.is("groups", View.groups(q), "1:0/0+0 1:1/0+1");
    }

    private static void askingIsBoundByWidth() {
        MergeQueue q = Made.filled(4, 1, 1, 4);
        DUE.steps(q, 4, 3, 0);
        q.answer(0, false);
        DUE.steps(q, 2, 3, 0);
        DUE.is("groups", View.groups(q), "1:0,1/0+0 0:2,3/0+2");
        q.answer(0, true);
        DUE.steps(q, 1, 3, 0);
        DUE.is("groups", View.groups(q), "1:2,3/0+0");
    }

    private static void askingStopsBehindAFailedGroup() {
        MergeQueue q = Made.filled(1, 3, 1, 3);
        DUE.steps(q, 4, 3, 4, 3);
        q.answer(1, false);
        DUE.steps(q, 4, 0);
        DUE.is("groups", View.groups(q), "1:0/0+0 2:1/1+1 0:2/0+2");
        q.answer(0, true);
        DUE.steps(q, 1, 2, 3, 0);
        DUE.is("groups", View.groups(q), "1:2/0+0");
    }

    private static void askingGoesOnBehindAPassedGroup() {
        MergeQueue q = Made.filled(1, 3, 1, 3);
        DUE.steps(q, 4, 3, 4, 3);
        q.answer(1, true);
        DUE.steps(q, 4, 3, 0);
        DUE.is("groups", View.groups(q), "1:0/0+0 3:1/0+1 1:2/0+2");
    }

    private static void landingKeepsOrderAndStates() {
        MergeQueue q = Made.filled(2, 3, 2, 6);
        q.jump(3);
        DUE.steps(q, 4, 3, 4, 3, 4, 3);
        q.answer(0, true);
        q.answer(1, false);
        q.answer(2, true);
        DUE.steps(q, 1);
        DUE.is("landed", View.landed(q), "3,0");
        DUE.is("groups", View.groups(q), "1:1,2/1+0 3:4,5/0+2");
        DUE.is("change 0", View.change(q, 0), "2 0 -1");
        q.answer(0, true);
        DUE.steps(q, 1, 1, 0);
        DUE.is("landed", View.landed(q), "3,0,1,2,4,5");
        DUE.is("landed(-1)", q.landed(-1), NONE);
        DUE.is("landed(6)", q.landed(6), NONE);
        DUE.is("counted(2)", q.counted(2), 0);
    }

    private static void landingSendsConflictsOut() {
        MergeQueue q = Made.filled(2, 1, 1, 6);
        q.conflict(4, 1);
        q.conflict(5, 0);
        q.conflict(2, 3);
        DUE.steps(q, 4, 3);
        DUE.is("it waits till then", View.change(q, 4), "0 0 -1");
        q.answer(0, true);
        DUE.is("it waits till then", View.waiting(q), "2,3,4,5");
        DUE.steps(q, 1);
        DUE.is("waiting", View.waiting(q), "2,3");
        DUE.is("change 4", View.change(q, 4), "3 2 1");
        DUE.is("change 5", View.change(q, 5), "3 2 0");
    }

    private static void landingWaitsForTheFirst() {
        MergeQueue q = Made.filled(1, 2, 1, 2);
        DUE.steps(q, 4, 3, 4, 3);
        q.answer(1, true);
        DUE.steps(q, 0);
        DUE.is("landed(0)", q.landed(0), NONE);
        q.answer(0, true);
        DUE.steps(q, 1, 1, 0);
        DUE.is("landed", View.landed(q), "0,1");
    }

    private static void halvingGivesTheFirstOneMore() {
        String[] due = {"", "", "0:0/0+0 0:1/0+1", "0:0,1/0+0 0:2/0+2", "0:0,1/0+0 0:2,3/0+2",
            "0:0,1,2/0+0 0:3,4/0+3", "0:0,1,2/0+0 0:3,4,5/0+3", "0:0,1,2,3/0+0 0:4,5,6/0+4",
            "0:0,1,2,3/0+0 0:4,5,6,7/0+4"};
        for (int size = 2; size <= 8; size++) {
            MergeQueue q = Made.filled(8, 1, 1, size);
            DUE.steps(q, 4, 3);
            q.answer(0, false);
            DUE.steps(q, 2);
            DUE.is("halves of " + size, View.groups(q), due[size]);
            DUE.is("counted(1)", q.counted(1), 1);
        }
    }

    private static void halvingDownToOne() {
        MergeQueue q = Made.filled(4, 1, 1, 4);
        DUE.steps(q, 4, 3);
        q.answer(0, false);
        DUE.steps(q, 2, 3);
        q.answer(0, true);
        DUE.steps(q, 1, 3);
        q.answer(0, false);
        DUE.steps(q, 2, 3);
        q.answer(0, false);
        DUE.steps(q, 2);
        DUE.is("change 2", View.change(q, 2), "3 1 2");
        DUE.is("groups", View.groups(q), "0:3/0+0");
        DUE.is("counted(1)", q.counted(1), 2);
        DUE.steps(q, 3);
        q.answer(0, true);
        DUE.steps(q, 1, 0);
        DUE.is("landed", View.landed(q), "0,1,3");
    }

    private static void halvingBeginsAnewBehind() {
        MergeQueue q = Made.filled(2, 4, 2, 7);
        DUE.steps(q, 4, 3, 4, 3, 4, 3, 4, 3);
        q.answer(0, false);
        q.answer(0, false);
        q.answer(1, true);
        q.answer(2, false);
        q.answer(3, false);
        q.answer(3, false);
        DUE.steps(q, 2);
        DUE.is("groups", View.groups(q), "0:0/0+0 0:1/0+1 0:2,3/0+2 0:4,5/0+4 0:6/0+6");
        DUE.is("only the asked one counts", q.counted(2), 1);
        DUE.steps(q, 3, 3, 3, 3, 0);
        DUE.is("groups", View.groups(q), "1:0/0+0 1:1/0+1 1:2,3/0+2 1:4,5/0+4 0:6/0+6");
    }

    private static void outByOneBeginsAnewBehind() {
        MergeQueue q = Made.filled(1, 3, 1, 3);
        DUE.steps(q, 4, 3, 4, 3, 4, 3);
        q.answer(0, false);
        q.answer(1, true);
        DUE.steps(q, 2);
        DUE.is("groups", View.groups(q), "0:1/0+0 0:2/0+1");
        DUE.is("change 0", View.change(q, 0), "3 1 0");
        DUE.is("counted(1)", q.counted(1), 0);
        DUE.is("counted(2)", q.counted(2), 1);
    }

    private static void halvingWaitsForTheFirst() {
        MergeQueue q = Made.filled(2, 2, 1, 4);
        DUE.steps(q, 4, 3, 4, 3);
        q.answer(1, false);
        DUE.steps(q, 0);
        DUE.is("groups", View.groups(q), "1:0,1/0+0 2:2,3/1+2");
    }

    private static void pauseStopsAskingAndFormingOnly() {
        MergeQueue q = Made.filled(2, 2, 1, 6);
        DUE.steps(q, 4, 3, 4, 3);
        q.pause(true);
        q.answer(0, true);
        q.answer(1, false);
        DUE.steps(q, 1, 2, 0);
        DUE.is("groups", View.groups(q), "0:2/0+0 0:3/0+1");
        q.pause(false);
        DUE.steps(q, 3, 3, 0);
        q.answer(0, true);
        q.pause(true);
        DUE.is("answers go on", q.answer(1, true), 3);
        DUE.steps(q, 1, 1, 0);
        q.pause(false);
        DUE.steps(q, 4);
    }

    private static void answersAreCounted() {
        MergeQueue q = Made.filled(2, 2, 3, 4);
        DUE.steps(q, 4, 3, 4, 3);
        DUE.is("answer(0, false)", q.answer(0, false), 1);
        DUE.is("answer(0, false)", q.answer(0, false), 1);
        DUE.is("group(0, 2)", q.group(0, 2), 2);
        DUE.is("answer(1, true)", q.answer(1, true), 3);
        DUE.is("answer(0, false)", q.answer(0, false), 2);
        DUE.is("group(0, 2)", q.group(0, 2), 3);
        DUE.is("answer(0, false)", q.answer(0, false), -1);
        DUE.is("counted(0)", q.counted(0), 4);
    }

    private static void answerIsRefused() {
        MergeQueue q = Made.filled(1, 3, 1, 3);
        DUE.is("no group", q.answer(0, true), -1);
        DUE.steps(q, 4);
        DUE.is("a new one", q.answer(0, true), -1);
        DUE.steps(q, 3);
        DUE.is("answer(1, true)", q.answer(1, true), -1);
        DUE.is("answer(-1, true)", q.answer(-1, true), -1);
        q.answer(0, true);
        DUE.is("a passed one", q.answer(0, false), -1);
        DUE.is("it has passed still", View.groups(q), "3:0/0+0");
        DUE.is("refused ones don't count", q.counted(0), 1);
    }

    private static void failuresStayWhenItPasses() {
        MergeQueue q = Made.filled(1, 2, 3, 2);
        DUE.steps(q, 4, 3, 4, 3);
        q.answer(1, false);
        q.answer(1, false);
        DUE.is("answer(1, true)", q.answer(1, true), 3);
        DUE.is("groups", View.groups(q), "1:0/0+0 3:1/2+1");
    }

    private static void groupAsksAreRefused() {
        MergeQueue q = Made.filled(2, 2, 2, 4);
        DUE.steps(q, 4, 3, 4);
        DUE.is("groups()", q.groups(), 2);
        int[] places = {-1, 2, 40, Integer.MIN_VALUE, Integer.MAX_VALUE};
        for (int place : places) {
            for (int what = 0; what < 4; what++) {
                DUE.is("group(" + place + ", " + what + ")", q.group(place, what), NONE);
            }
        }
        DUE.is("group(0, -1)", q.group(0, -1), NONE);
        DUE.is("group(0, 4)", q.group(0, 4), NONE);
        DUE.is("group(1, 3)", q.group(1, 3), 2);
    }

    private static void memberIsNone() {
        MergeQueue q = Made.filled(2, 2, 2, 4);
        DUE.steps(q, 4, 3, 4);
        DUE.is("member(0, 1)", q.member(0, 1), 1);
        DUE.is("member(0, 2)", q.member(0, 2), NONE);
        DUE.is("member(0, -1)", q.member(0, -1), NONE);
        DUE.is("member(1, -1)", q.member(1, -1), NONE);
        DUE.is("member(1, 0)", q.member(1, 0), 2);
        DUE.is("member(2, 0)", q.member(2, 0), NONE);
        DUE.is("member(-1, 0)", q.member(-1, 0), NONE);
        DUE.is("member(1, MAX)", q.member(1, Integer.MAX_VALUE), NONE);
        DUE.is("member(MAX, 0)", q.member(Integer.MAX_VALUE, 0), NONE);
    }

    private static void byTellsTheFirstOfTheTree() {
        MergeQueue q = Made.filled(3, 1, 1, 5);
        q.jump(2);
        q.conflict(4, 0);
        q.conflict(4, 1);
        q.conflict(4, 3);
        DUE.steps(q, 4, 3);
        q.answer(0, true);
        DUE.steps(q, 1);
        DUE.is("landed", View.landed(q), "2,0,1");
        DUE.is("change 4", View.change(q, 4), "3 2 0");
        DUE.steps(q, 4, 3);
        q.answer(0, true);
        DUE.steps(q, 1);
        DUE.is("change 4 later", View.change(q, 4), "3 2 0");
        MergeQueue r = Made.filled(2, 1, 1, 3);
        r.jump(1);
        r.conflict(2, 0);
        r.conflict(2, 1);
        DUE.steps(r, 4, 3);
        r.answer(0, true);
        DUE.steps(r, 1);
        DUE.is("first of the tree, not the least", View.change(r, 2), "3 2 1");
        DUE.is("by(-1)", r.by(-1), NONE);
        DUE.is("by(3)", r.by(3), NONE);
        DUE.is("why(-1)", r.why(-1), NONE);
        DUE.is("why(3)", r.why(3), NONE);
        DUE.is("where(-1)", r.where(-1), NONE);
        DUE.is("where(3)", r.where(3), NONE);
    }

    private static void byTellsTheTreeThen() {
        MergeQueue q = Made.filled(1, 1, 1, 4);
        boolean[] passes = {true, false, true, false};
        for (boolean pass : passes) {
            DUE.steps(q, 4, 3);
            q.answer(0, pass);
            DUE.steps(q, pass ? 1 : 2);
        }
        DUE.is("change 1", View.change(q, 1), "3 1 1");
        DUE.is("change 3", View.change(q, 3), "3 1 2");
    }

    private static void partsAreJoined() {
        MergeQueue q = new MergeQueue(3, 1, 1);
        q.change(5, 6);
        q.change(5, 3);
        q.change(5, 1 << 31);
        q.change(4, 64);
        DUE.steps(q, 4, 3);
        DUE.is("nothing has landed", q.counted(3), 0);
        q.answer(0, true);
        DUE.steps(q, 1);
        DUE.is("counted(3)", q.counted(3), 7 | 1 << 31);
        DUE.is("counted(4)", q.counted(4), NONE);
        DUE.is("counted(-1)", q.counted(-1), NONE);
    }

    private static void sevenGroupsStandAtOnce() {
        MergeQueue q = Made.filled(8, 4, 1, 40);
        DUE.steps(q, 4, 3, 4, 3, 4, 3, 4, 3, 0);
        for (int i = 0; i < 3; i++) {
            q.answer(0, false);
            DUE.steps(q, 2, 3);
        }
        DUE.is("groups()", q.groups(), 7);
        DUE.is("group(6, 3)", q.group(6, 3), 24);
        DUE.is("member(6, 7)", q.member(6, 7), 31);
        DUE.is("counted(1)", q.counted(1), 3);
        DUE.is("counted(2)", q.counted(2), 3);
    }

    private static void allFortyLand() {
        MergeQueue q = Made.filled(8, 4, 1, 40);
        int landings = 0;
        for (int i = 0; i < 40; i++) {
            int kind = q.step();
            landings += kind == 1 ? 1 : 0;
            if (kind == 3) {
                q.answer(q.groups() - 1, true);
            }
        }
        DUE.is("landings", landings, 5);
        DUE.is("landed(39)", q.landed(39), 39);
        DUE.is("landed(40)", q.landed(40), NONE);
        DUE.is("counted(3)", q.counted(3), -1);
        DUE.is("groups()", q.groups(), 0);
    }
}
