/** Promise 11: member. */
public final class Promise11MemberTest {
    private static final int NONE = MergeQueue.NONE;
    private static final String BY_PLACE = "A CHANGE of a GROUP, by its place in it";
    private static final String NONE_SUCH = "NONE if there is none such";

    public static void main(String[] args) {
        Promise p = new Promise("Promise 11: member");
        p.says(BY_PLACE, "the first and the last", Promise11MemberTest::firstAndLast);
        p.says(BY_PLACE, "after HALVING", Promise11MemberTest::afterHalving);
        p.says(NONE_SUCH, "no GROUPS at all", Promise11MemberTest::noGroups);
        p.says(NONE_SUCH, "the GROUP too small", Promise11MemberTest::groupTooSmall);
        p.says(NONE_SUCH, "the GROUP too large", Promise11MemberTest::groupTooLarge);
        p.says(NONE_SUCH, "the place too small", Promise11MemberTest::placeTooSmall);
        p.says(NONE_SUCH, "the place too large", Promise11MemberTest::placeTooLarge);
        p.finish();
    }

    private static void firstAndLast(Due due) {
        MergeQueue q = Made.asked(8, 4, 1, 40, 4);
        due.is("member(0, 0)", q.member(0, 0), 0);
        due.is("member(0, 7)", q.member(0, 7), 7);
        due.is("member(3, 0)", q.member(3, 0), 24);
        due.is("member(3, 7)", q.member(3, 7), 31);
    }

    private static void afterHalving(Due due) {
        MergeQueue q = Made.asked(5, 1, 1, 5, 1);
        q.answer(0, false);
        due.steps(q, 2);
        due.is("member(0, 2)", q.member(0, 2), 2);
        due.is("member(0, 3)", q.member(0, 3), NONE);
        due.is("member(1, 0)", q.member(1, 0), 3);
        due.is("member(1, 1)", q.member(1, 1), 4);
        due.is("member(1, 2)", q.member(1, 2), NONE);
    }

    private static void noGroups(Due due) {
        due.is("of a new one", new MergeQueue(1, 1, 1).member(0, 0), NONE);
        due.is("while all wait", Made.filled(1, 1, 1, 3).member(0, 0), NONE);
    }

    private static void groupTooSmall(Due due) {
        groupsAreNone(due, Outside.below());
    }

    private static void groupTooLarge(Due due) {
        groupsAreNone(due, Outside.from(4));
    }

    /** A place in front of the first must not be the last of the group in front. */
    private static void placeTooSmall(Due due) {
        placesAreNone(due, Outside.below());
    }

    /** A place behind the last must not be the first of the group behind, nor wrap around. */
    private static void placeTooLarge(Due due) {
        placesAreNone(due, Outside.from(2));
    }

    private static void groupsAreNone(Due due, int[] groups) {
        MergeQueue q = Made.everyState();
        for (int k = -1; k <= 2; k++) {
            int place = k;
            due.each("place " + place + " of the group", groups, group -> q.member(group, place), NONE);
        }
    }

    private static void placesAreNone(Due due, int[] places) {
        MergeQueue q = Made.everyState();
        for (int g = 0; g < 4; g++) {
            int group = g;
            due.each("group " + group + " at the place", places, place -> q.member(group, place), NONE);
        }
    }
}
