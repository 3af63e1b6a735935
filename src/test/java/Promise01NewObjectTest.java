/** Promise 1: a new object is empty, and its three numbers are held in their ranges. */
public final class Promise01NewObjectTest {
    private static final int MIN = Integer.MIN_VALUE;
    private static final int MAX = Integer.MAX_VALUE;
    private static final String NEAREST = "what is out of its range becomes the nearest one in it";

    public static void main(String[] args) {
        Promise p = new Promise("Promise 1: A new object");
        p.says("No CHANGES", "nothing is there to see", Promise01NewObjectTest::nothingIsThereToSee);
        p.says("No CHANGES", "nothing can be done", Promise01NewObjectTest::nothingCanBeDone);
        p.says("MOST (1 .. 8) CHANGES a GROUP", "in its range", Promise01NewObjectTest::mostInItsRange);
        p.says("WIDTH (1 .. 4)", "in its range", Promise01NewObjectTest::widthInItsRange);
        p.says("AGAIN (1 .. 3)", "in its range", Promise01NewObjectTest::againInItsRange);
        p.says(NEAREST, "MOST too small", Promise01NewObjectTest::mostTooSmall);
        p.says(NEAREST, "MOST too large", Promise01NewObjectTest::mostTooLarge);
        p.says(NEAREST, "WIDTH too small", Promise01NewObjectTest::widthTooSmall);
        p.says(NEAREST, "WIDTH too large", Promise01NewObjectTest::widthTooLarge);
        p.says(NEAREST, "AGAIN too small", Promise01NewObjectTest::againTooSmall);
        p.says(NEAREST, "AGAIN too large", Promise01NewObjectTest::againTooLarge);
        p.says(NEAREST, "all three at once", Promise01NewObjectTest::allThreeOutOfRange);
        p.finish();
    }

    private static void nothingIsThereToSee(Due due) {
        MergeQueue q = new MergeQueue(2, 2, 2);
        due.is("all that is shown", View.all(q), "||||0|0|0|0");
        due.is("groups()", q.groups(), 0);
        due.is("group(0, 0)", q.group(0, 0), MergeQueue.NONE);
        due.is("member(0, 0)", q.member(0, 0), MergeQueue.NONE);
        due.is("change 0", View.change(q, 0), "-1 -1 -1");
    }

    private static void nothingCanBeDone(Due due) {
        MergeQueue q = new MergeQueue(2, 2, 2);
        due.is("step()", q.step(), 0);
        due.is("jump(0)", q.jump(0), false);
        due.is("leave(0)", q.leave(0), false);
        due.is("conflict(0, 1)", q.conflict(0, 1), -1);
        due.is("answer(0, true)", q.answer(0, true), -1);
        due.is("pause(false)", q.pause(false), false);
        due.is("the first change", q.change(0, 0), 0);
    }

    private static void mostInItsRange(Due due) {
        for (int most = 1; most <= 8; most++) {
            checkMost(due, most, most);
        }
    }

    private static void widthInItsRange(Due due) {
        for (int width = 1; width <= 4; width++) {
            checkWidth(due, width, width);
        }
    }

    private static void againInItsRange(Due due) {
        for (int again = 1; again <= 3; again++) {
            checkAgain(due, again, again);
        }
    }

    private static void mostTooSmall(Due due) {
        for (int most : new int[] {0, -1, -8, MIN}) {
            checkMost(due, most, 1);
        }
    }

    private static void mostTooLarge(Due due) {
        for (int most : new int[] {9, 16, 257, MAX}) {
            checkMost(due, most, 8);
        }
    }

    private static void widthTooSmall(Due due) {
        for (int width : new int[] {0, -1, -4, MIN}) {
            checkWidth(due, width, 1);
        }
    }

    private static void widthTooLarge(Due due) {
        for (int width : new int[] {5, 8, 257, MAX}) {
            checkWidth(due, width, 4);
        }
    }

    private static void againTooSmall(Due due) {
        for (int again : new int[] {0, -1, -3, MIN}) {
            checkAgain(due, again, 1);
        }
    }

    private static void againTooLarge(Due due) {
        for (int again : new int[] {4, 8, 257, MAX}) {
            checkAgain(due, again, 3);
        }
    }

    private static void allThreeOutOfRange(Due due) {
        check(due, new int[] {MIN, MAX, MIN}, new int[] {1, 4, 1});
        check(due, new int[] {MAX, MIN, MAX}, new int[] {8, 1, 3});
        check(due, new int[] {0, 0, 0}, new int[] {1, 1, 1});
        check(due, new int[] {9, 5, 4}, new int[] {8, 4, 3});
    }

    private static void checkMost(Due due, int given, int held) {
        check(due, new int[] {given, 2, 2}, new int[] {held, 2, 2});
    }

    private static void checkWidth(Due due, int given, int held) {
        check(due, new int[] {2, given, 2}, new int[] {2, held, 2});
    }

    private static void checkAgain(Due due, int given, int held) {
        check(due, new int[] {2, 2, given}, new int[] {2, 2, held});
    }

    private static void check(Due due, int[] given, int[] held) {
        String made = "(" + given[0] + ", " + given[1] + ", " + given[2] + "): ";
        MergeQueue q = Made.asked(given[0], given[1], given[2], 40, 8);
        due.is(made + "changes of a group", q.group(0, 1), held[0]);
        due.is(made + "groups", q.groups(), held[1]);
        int failures = 1;
        while (failures < 20 && q.answer(0, false) == 1) {
            failures++;
        }
        due.is(made + "failures till it has failed", failures, held[2]);
    }
}
