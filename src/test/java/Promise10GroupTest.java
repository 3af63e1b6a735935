/** Promise 10: group. */
public final class Promise10GroupTest {
    private static final int NONE = MergeQueue.NONE;
    private static final String NONE_SUCH = "NONE if there is none such";
    private static final String OTHER_WHAT = "or for another what";

    public static void main(String[] args) {
        Promise p = new Promise("Promise 10: group");
        p.says("0 its STATE", "each of the four", Promise10GroupTest::states);
        p.says("1 how many CHANGES it has", "one and MOST", Promise10GroupTest::oneAndMost);
        p.says("2 its failures", "none and up to AGAIN", Promise10GroupTest::failures);
        p.says("2 its failures", "forgotten when it begins anew", Promise10GroupTest::failuresForgotten);
        p.says("3 how many CHANGES its BASE has", "the first has none", Promise10GroupTest::firstBaseIsEmpty);
        p.says("3 how many CHANGES its BASE has", "the last of seven", Promise10GroupTest::baseOfTheLast);
        p.says("3 how many CHANGES its BASE has", "the TREE is none of it", Promise10GroupTest::treeIsNoBase);
        p.says(NONE_SUCH, "no GROUPS at all", Promise10GroupTest::noGroups);
        p.says(NONE_SUCH, "too small", Promise10GroupTest::placeTooSmall);
        p.says(NONE_SUCH, "too large", Promise10GroupTest::placeTooLarge);
        p.says(OTHER_WHAT, "too small", Promise10GroupTest::whatTooSmall);
        p.says(OTHER_WHAT, "too large", Promise10GroupTest::whatTooLarge);
        p.finish();
    }

    private static void states(Due due) {
        MergeQueue q = Made.everyState();
        due.is("asked", q.group(0, 0), 1);
        due.is("passed", q.group(1, 0), 3);
        due.is("failed", q.group(2, 0), 2);
        due.is("new", q.group(3, 0), 0);
    }

    private static void oneAndMost(Due due) {
        MergeQueue q = Made.asked(8, 2, 1, 9, 2);
        due.is("most", q.group(0, 1), 8);
        due.is("one", q.group(1, 1), 1);
    }

    private static void failures(Due due) {
        MergeQueue q = Made.asked(1, 1, 3, 1, 1);
        for (int failures = 0; failures < 3; failures++) {
            due.is("failures", q.group(0, 2), failures);
            q.answer(0, false);
        }
        due.is("failures of one that has failed", q.group(0, 2), 3);
        q.answer(0, false);
        due.is("after a refused answer", q.group(0, 2), 3);
    }

    private static void failuresForgotten(Due due) {
        MergeQueue q = Made.asked(2, 1, 3, 2, 1);
        q.answer(0, false);
        q.leave(1);
        due.is("failures", q.group(0, 2), 0);
    }

    private static void firstBaseIsEmpty(Due due) {
        due.is("group(0, 3)", Made.asked(8, 4, 1, 40, 4).group(0, 3), 0);
    }

    private static void baseOfTheLast(Due due) {
        MergeQueue q = Made.asked(8, 4, 1, 40, 4);
        for (int i = 0; i < 3; i++) {
            q.answer(0, false);
            due.steps(q, 2, 3);
        }
        int[] bases = {0, 1, 2, 4, 8, 16, 24};
        for (int g = 0; g < bases.length; g++) {
            due.is("group(" + g + ", 3)", q.group(g, 3), bases[g]);
        }
    }

    private static void treeIsNoBase(Due due) {
        MergeQueue q = Made.asked(2, 2, 1, 4, 2);
        due.is("before landing", q.group(1, 3), 2);
        q.answer(0, true);
        due.steps(q, 1);
        due.is("after landing", q.group(0, 3), 0);
    }

    private static void noGroups(Due due) {
        placesAreNone(due, new MergeQueue(1, 1, 1), Outside.from(0));
        placesAreNone(due, Made.filled(1, 1, 1, 3), Outside.from(0));
    }

    private static void placeTooSmall(Due due) {
        placesAreNone(due, Made.everyState(), Outside.below());
    }

    private static void placeTooLarge(Due due) {
        placesAreNone(due, Made.everyState(), Outside.from(4));
    }

    private static void whatTooSmall(Due due) {
        whatsAreNone(due, Outside.below());
    }

    private static void whatTooLarge(Due due) {
        whatsAreNone(due, Outside.from(4));
    }

    private static void placesAreNone(Due due, MergeQueue q, int[] places) {
        for (int w = 0; w <= 3; w++) {
            int what = w;
            due.each("what " + what + " of the group", places, place -> q.group(place, what), NONE);
        }
    }

    private static void whatsAreNone(Due due, int[] whats) {
        MergeQueue q = Made.everyState();
        for (int g = 0; g < 4; g++) {
            int group = g;
            due.each("group " + group + " for what", whats, what -> q.group(group, what), NONE);
        }
    }
}
