/** Promise 2: change. */
public final class Promise02ChangeTest {
    private static final int NONE = MergeQueue.NONE;
    private static final String NUMBER = "A new CHANGE: its number";
    private static final String FULL = "NONE if there are 40";
    private static final String RANK = "or RANK isn't 0 .. 9";

    public static void main(String[] args) {
        Promise p = new Promise("Promise 2: change");
        p.says(NUMBER, "from 0 on", Promise02ChangeTest::numberedFrom0);
        p.says(NUMBER, "it waits", Promise02ChangeTest::newOneWaits);
        p.says(NUMBER, "PARTS of any bits", Promise02ChangeTest::partsOfAnyBits);
        p.says(FULL, "the 40th and the 41st", Promise02ChangeTest::the40thAndThe41st);
        p.says(FULL, "those that wait no more count", Promise02ChangeTest::goneOnesCountAmongThe40);
        p.says(FULL, "nothing changes", Promise02ChangeTest::fullChangesNothing);
        p.says(RANK, "too small", Promise02ChangeTest::rankTooSmall);
        p.says(RANK, "too large", Promise02ChangeTest::rankTooLarge);
        p.says(RANK, "the least and the greatest", Promise02ChangeTest::leastAndGreatestRank);
        p.says(RANK, "a refused one takes no number", Promise02ChangeTest::refusedTakesNoNumber);
        p.finish();
    }

    private static void numberedFrom0(Due due) {
        MergeQueue q = new MergeQueue(2, 2, 2);
        due.is("the first", q.change(3, 1), 0);
        due.is("the second", q.change(9, 1), 1);
        due.is("the third", q.change(0, 1), 2);
    }

    private static void newOneWaits(Due due) {
        MergeQueue q = Made.ranked(2, 2, 2, 4);
        due.is("change 0", View.change(q, 0), "0 0 -1");
        due.is("waiting", View.waiting(q), "0");
        due.is("groups()", q.groups(), 0);
    }

    private static void partsOfAnyBits(Due due) {
        int[] parts = {0, 1, 1 << 31, -1, Integer.MAX_VALUE};
        MergeQueue q = new MergeQueue(1, 1, 1);
        for (int i = 0; i < parts.length; i++) {
            due.is("change(0, " + parts[i] + ")", q.change(0, parts[i]), i);
        }
    }

    private static void the40thAndThe41st(Due due) {
        MergeQueue q = Made.filled(2, 2, 2, 39);
        due.is("the 40th", q.change(5, 5), 39);
        due.is("the 41st", q.change(5, 5), NONE);
        due.is("where(39)", q.where(39), 0);
        due.is("where(40)", q.where(40), NONE);
    }

    private static void goneOnesCountAmongThe40(Due due) {
        MergeQueue q = Made.everyPlace();
        for (int number = Made.NO_SUCH; number < 40; number++) {
            due.is("change " + number, q.change(0, 0), number);
        }
        due.is("the 41st", q.change(0, 0), NONE);
    }

    private static void fullChangesNothing(Due due) {
        MergeQueue q = Made.filled(2, 2, 2, 40);
        for (int i = 0; i < 5; i++) {
            q.change(9, -1);
        }
        due.is("waiting(0)", q.waiting(0), 0);
        due.is("waiting(39)", q.waiting(39), 39);
        due.is("waiting(40)", q.waiting(40), NONE);
    }

    private static void rankTooSmall(Due due) {
        refused(due, Outside.below());
    }

    private static void rankTooLarge(Due due) {
        refused(due, Outside.from(10));
    }

    private static void refused(Due due, int[] ranks) {
        MergeQueue q = Made.filled(2, 2, 2, 2);
        due.unchanged(q, () -> due.each("change with rank", ranks, rank -> q.change(rank, 1), NONE));
    }

    private static void leastAndGreatestRank(Due due) {
        MergeQueue q = new MergeQueue(2, 2, 2);
        due.is("change(0, 1)", q.change(0, 1), 0);
        due.is("change(9, 1)", q.change(9, 1), 1);
        due.is("waiting", View.waiting(q), "1,0");
    }

    private static void refusedTakesNoNumber(Due due) {
        MergeQueue q = new MergeQueue(2, 2, 2);
        q.change(-1, 1);
        due.is("the first that is taken", q.change(5, 1), 0);
        q.change(10, 1);
        due.is("the second that is taken", q.change(5, 1), 1);
        for (int number = 2; number < 40; number++) {
            q.change(10, 1);
            due.is("change " + number, q.change(5, 1), number);
        }
    }
}
