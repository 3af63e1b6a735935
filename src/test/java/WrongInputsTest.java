/** Arguments at the edges of int, in states of every kind: nothing is thrown, nothing changes. */
public final class WrongInputsTest {
    private static final Due DUE = new Due();
    private static final int NONE = MergeQueue.NONE;

    public static void main(String[] args) {
        for (int calls = 0; calls < 45; calls++) {
            checkAll(calls, Outside.below());
            checkAll(calls, Outside.from(40));
        }
        DUE.finish();
    }

    /** With a new object for each, since one is used for at most 512 calls. */
    private static void checkAll(int calls, int[] outside) {
        String untouched = View.all(stateAfter(calls));
        for (int x : outside) {
            MergeQueue q = stateAfter(calls);
            askAtEdge(q, x);
            DUE.is("state " + calls + " after calls with " + x, View.all(q), untouched);
        }
    }

    /** A mixed state, further on for each more of the calls that lead to it. */
    private static MergeQueue stateAfter(int calls) {
        MergeQueue q = new MergeQueue(1 + calls % 8, 1 + calls % 4, 1 + calls % 3);
        for (int i = 0; i < calls % 41; i++) {
            q.change(i % 10, 1 << i % 32);
        }
        q.conflict(0, 3);
        q.conflict(7, 2);
        q.jump(4);
        for (int i = 0; i < calls; i++) {
            if (q.step() == 0) {
                q.answer(i % 3, i % 5 != 0);
                q.answer(0, i % 4 != 0);
            }
        }
        return q;
    }

    private static void askAtEdge(MergeQueue q, int x) {
        DUE.is("change(" + x + ", 0)", q.change(x, 0), NONE);
        DUE.is("jump(" + x + ")", q.jump(x), false);
        DUE.is("leave(" + x + ")", q.leave(x), false);
        DUE.is("waiting(" + x + ")", q.waiting(x), NONE);
        DUE.is("landed(" + x + ")", q.landed(x), NONE);
        DUE.is("where(" + x + ")", q.where(x), NONE);
        DUE.is("why(" + x + ")", q.why(x), NONE);
        DUE.is("by(" + x + ")", q.by(x), NONE);
        DUE.is("counted(" + x + ")", q.counted(x), NONE);
        DUE.is("answer(" + x + ", true)", q.answer(x, true), -1);
        DUE.is("answer(" + x + ", false)", q.answer(x, false), -1);
        DUE.is("group(0, " + x + ")", q.group(0, x), NONE);
        for (int small = 0; small < 4; small++) {
            DUE.is("group(" + x + ", " + small + ")", q.group(x, small), NONE);
            DUE.is("member(" + x + ", " + small + ")", q.member(x, small), NONE);
            DUE.is("member(" + small + ", " + x + ")", q.member(small, x), NONE);
            DUE.is("conflict(" + x + ", " + small + ")", q.conflict(x, small), -1);
            DUE.is("conflict(" + small + ", " + x + ")", q.conflict(small, x), -1);
        }
        DUE.is("conflict(" + x + ", " + x + ")", q.conflict(x, x), -1);
    }
}
