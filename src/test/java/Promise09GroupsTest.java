/** Promise 9: groups. */
public final class Promise09GroupsTest {
    private static final String HOW_MANY = "How many GROUPS there are";

    public static void main(String[] args) {
        Promise p = new Promise("Promise 9: groups");
        p.says(HOW_MANY, "none", Promise09GroupsTest::none);
        p.says(HOW_MANY, "WIDTH, and no more by FORMING", Promise09GroupsTest::widthByForming);
        p.says(HOW_MANY, "more than WIDTH by HALVING", Promise09GroupsTest::moreByHalving);
        p.says(HOW_MANY, "fewer when one goes", Promise09GroupsTest::fewerWhenOneGoes);
        p.finish();
    }

    private static void none(Due due) {
        due.is("groups() of a new one", new MergeQueue(1, 1, 1).groups(), 0);
        due.is("groups() while all wait", Made.filled(1, 1, 1, 40).groups(), 0);
    }

    private static void widthByForming(Due due) {
        for (int width = 1; width <= 4; width++) {
            MergeQueue q = Made.filled(1, width, 1, 40);
            for (int formed = 1; formed <= width; formed++) {
                due.steps(q, 4);
                due.is("groups()", q.groups(), formed);
                due.steps(q, 3);
            }
            due.steps(q, 0);
            due.is("groups() with width " + width, q.groups(), width);
        }
    }

    private static void moreByHalving(Due due) {
        MergeQueue q = Made.asked(8, 4, 1, 40, 4);
        for (int groups = 5; groups <= 7; groups++) {
            q.answer(0, false);
            due.steps(q, 2, 3);
            due.is("groups()", q.groups(), groups);
        }
        due.is("sizes", q.group(0, 1) + " " + q.group(1, 1) + " " + q.group(6, 1), "1 1 8");
        q.answer(0, false);
        due.steps(q, 2);
        due.is("groups() when the one change is out", q.groups(), 6);
    }

    private static void fewerWhenOneGoes(Due due) {
        MergeQueue q = Made.asked(1, 3, 1, 3, 3);
        q.answer(0, true);
        due.steps(q, 1);
        due.is("groups() after landing", q.groups(), 2);
        q.answer(0, false);
        due.steps(q, 2);
        due.is("groups() after one change failed", q.groups(), 1);
        q.leave(2);
        due.is("groups() after the last one left", q.groups(), 0);
    }
}
