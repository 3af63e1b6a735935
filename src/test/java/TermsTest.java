/** What it is, and the Terms but for the kinds of a step. ORDER is in Promise12, ANSWERING in Promise08. */
public final class TermsTest {
    private static final int CALLS = 512;
    private static final String USED = "An object is used for at most 512 calls after it has been made";
    private static final String AT_MOST_40 = "CHANGES, at most 40, numbered from 0 as they come";
    private static final String PATH = "Each WAITS at first; then it is in a GROUP; then in the TREE";
    private static final String NEVER = "no two of the TREE and the GROUPS ever do";
    private static final String BASE = "Its BASE: the CHANGES of all GROUPS in front of it";
    private static final String ANEW = "To BEGIN ANEW: it is NEW, its failures are forgotten";
    private static final String FIRST = "A STEP does the first of these that can be done";

    public static void main(String[] args) {
        Promise p = new Promise("Terms");
        p.says(USED, "the 512th call", TermsTest::the512thCall);
        p.says(USED, "later ones throw nothing", TermsTest::laterCallsThrowNothing);
        p.says(AT_MOST_40, "all forty through the queue", TermsTest::allFortyThroughTheQueue);
        p.says("have a RANK (0 .. 9)", "each of them", TermsTest::eachRank);
        p.says("touch PARTS (bits 0 .. 31)", "each of them", TermsTest::eachPart);
        p.says(PATH, "one change", TermsTest::pathOfOneChange);
        p.says(NEVER, "all in conflict with all", TermsTest::allInConflict);
        p.says("a STATE: NEW (0), ASKED (1), FAILED (2), PASSED (3)", "each of them", TermsTest::eachState);
        p.says(BASE, "none in front, and all in front", TermsTest::bases);
        p.says(ANEW, "it is asked as often again", TermsTest::askedAsOftenAgain);
        p.says(FIRST, "LANDING before ASKING", TermsTest::landingBeforeAsking);
        p.says(FIRST, "LANDING before FORMING", TermsTest::landingBeforeForming);
        p.says(FIRST, "HALVING before FORMING", TermsTest::halvingBeforeForming);
        p.says(FIRST, "ASKING before FORMING", TermsTest::askingBeforeForming);
        p.says("`NONE = -1`", "its value", TermsTest::valueOfNone);
        p.finish();
    }

    private static void the512thCall(Due due) {
        MergeQueue q = Made.asked(1, 1, 3, 1, 1);
        for (int call = 4; call < CALLS; call++) {
            q.pause(call % 2 == 0);
        }
        due.is("answer(0, true)", q.answer(0, true), 3);
    }

    private static void laterCallsThrowNothing(Due due) {
        MergeQueue q = new MergeQueue(8, 4, 3);
        int thrown = 0;
        for (int i = 0; i < 5000; i++) {
            try {
                callAll(q, i);
            } catch (RuntimeException e) {
                thrown++;
            }
        }
        due.is("calls that threw", thrown, 0);
    }

    private static void callAll(MergeQueue q, int i) {
        q.change(i % 12 - 1, i);
        q.conflict(i % 41, i % 7);
        q.jump(i % 43 - 1);
        q.pause(i % 9 == 0);
        q.step();
        q.answer(i % 6 - 1, i % 4 != 0);
        q.leave(i % 97);
        q.counted(i % 6 - 1);
        View.all(q);
    }

    private static void allFortyThroughTheQueue(Due due) {
        MergeQueue q = Made.filled(8, 4, 1, 40);
        int landings = 0;
        for (int i = 0; i < 40; i++) {
            int kind = q.step();
            landings += kind == 1 ? 1 : 0;
            if (kind == 3) {
                q.answer(q.groups() - 1, true);
            }
        }
        due.is("landings", landings, 5);
        due.is("landed(0)", q.landed(0), 0);
        due.is("landed(39)", q.landed(39), 39);
        due.is("groups()", q.groups(), 0);
    }

    private static void eachRank(Due due) {
        MergeQueue q = Made.ranked(8, 1, 1, 0, 1, 2, 3, 4, 5, 6, 7, 8, 9);
        due.is("waiting", View.waiting(q), "9,8,7,6,5,4,3,2,1,0");
    }

    private static void eachPart(Due due) {
        for (int bit = 0; bit < 32; bit++) {
            MergeQueue q = new MergeQueue(1, 1, 1);
            q.change(5, 1 << bit);
            Made.tryNext(q, true);
            due.is("counted(3) of bit " + bit, q.counted(3), 1 << bit);
        }
    }

    private static void pathOfOneChange(Due due) {
        MergeQueue q = Made.filled(1, 1, 1, 1);
        due.is("it waits", q.where(0), 0);
        due.steps(q, 4);
        due.is("it is in a group", q.where(0), 1);
        due.steps(q, 3);
        q.answer(0, true);
        due.is("it is in a group still", q.where(0), 1);
        due.steps(q, 1);
        due.is("it is in the tree", q.where(0), 2);
    }

    private static void allInConflict(Due due) {
        MergeQueue q = Made.filled(8, 4, 1, 6);
        for (int a = 0; a < 6; a++) {
            for (int b = 0; b < a; b++) {
                q.conflict(a, b);
            }
        }
        due.steps(q, 4, 3, 0);
        due.is("groups", View.groups(q), "1:0/0+0");
        q.answer(0, true);
        due.steps(q, 1, 0);
        due.is("landed", View.landed(q), "0");
        due.is("waiting", View.waiting(q), "");
    }

    private static void eachState(Due due) {
        MergeQueue q = Made.filled(1, 1, 1, 2);
        due.steps(q, 4);
        due.is("new", q.group(0, 0), 0);
        due.steps(q, 3);
        due.is("asked", q.group(0, 0), 1);
        q.answer(0, false);
        due.is("failed", q.group(0, 0), 2);
        due.steps(q, 2, 4, 3);
        q.answer(0, true);
        due.is("passed", q.group(0, 0), 3);
    }

    private static void bases(Due due) {
        MergeQueue q = Made.asked(3, 4, 1, 10, 4);
        due.is("groups", View.groups(q), "1:0,1,2/0+0 1:3,4,5/0+3 1:6,7,8/0+6 1:9/0+9");
    }

    private static void askedAsOftenAgain(Due due) {
        MergeQueue q = Made.asked(2, 1, 2, 3, 1);
        due.is("the first failure", q.answer(0, false), 1);
        q.leave(1);
        due.is("groups", View.groups(q), "0:0/0+0");
        due.steps(q, 3);
        due.is("the first failure anew", q.answer(0, false), 1);
        due.is("the second failure anew", q.answer(0, false), 2);
    }

    private static void landingBeforeAsking(Due due) {
        MergeQueue q = Made.asked(1, 2, 1, 2, 1);
        due.steps(q, 4);
        q.answer(0, true);
        due.is("one that passed, a new one", View.groups(q), "3:0/0+0 0:1/0+1");
        due.steps(q, 1, 3);
    }

    private static void landingBeforeForming(Due due) {
        MergeQueue q = Made.asked(1, 2, 1, 2, 1);
        q.answer(0, true);
        due.is("one waits", View.waiting(q), "1");
        due.steps(q, 1, 4);
    }

    private static void halvingBeforeForming(Due due) {
        MergeQueue q = Made.asked(1, 2, 1, 2, 1);
        q.answer(0, false);
        due.is("one waits", View.waiting(q), "1");
        due.steps(q, 2, 4);
    }

    private static void askingBeforeForming(Due due) {
        MergeQueue q = Made.filled(1, 2, 1, 2);
        due.steps(q, 4, 3, 4, 3, 0);
    }

    private static void valueOfNone(Due due) {
        due.is("NONE", MergeQueue.NONE, -1);
    }
}
