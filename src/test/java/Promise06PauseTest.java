/** Promise 6: pause. */
public final class Promise06PauseTest {
    private static final String PAUSED = "It is PAUSED, or isn't any more";
    private static final String ALREADY = "false if it is so already";

    public static void main(String[] args) {
        Promise p = new Promise("Promise 6: pause");
        p.says(PAUSED, "on and off", Promise06PauseTest::onAndOff);
        p.says(PAUSED, "of an empty object", Promise06PauseTest::ofAnEmptyObject);
        p.says(PAUSED, "all else goes on", Promise06PauseTest::allElseGoesOn);
        p.says(ALREADY, "a new object isn't", Promise06PauseTest::newOneIsNotPaused);
        p.says(ALREADY, "on again, and it stays so", Promise06PauseTest::onAgain);
        p.says(ALREADY, "off again, and it stays so", Promise06PauseTest::offAgain);
        p.finish();
    }

    private static void onAndOff(Due due) {
        MergeQueue q = Made.filled(1, 2, 1, 2);
        due.is("pause(true)", q.pause(true), true);
        due.steps(q, 0);
        due.is("pause(false)", q.pause(false), true);
        due.steps(q, 4);
        due.is("pause(true)", q.pause(true), true);
        due.steps(q, 0);
        due.is("pause(false)", q.pause(false), true);
        due.steps(q, 3);
    }

    private static void ofAnEmptyObject(Due due) {
        MergeQueue q = new MergeQueue(1, 1, 1);
        due.is("pause(true)", q.pause(true), true);
        due.is("change(5, 0)", q.change(5, 0), 0);
        due.steps(q, 0);
    }

    private static void allElseGoesOn(Due due) {
        MergeQueue q = Made.asked(1, 2, 1, 6, 2);
        q.pause(true);
        due.is("answer(0, true)", q.answer(0, true), 3);
        due.is("answer(1, false)", q.answer(1, false), 2);
        due.steps(q, 1, 2, 0);
        due.is("jump(5)", q.jump(5), true);
        due.is("conflict(2, 3)", q.conflict(2, 3), 1);
        due.is("leave(4)", q.leave(4), true);
        due.is("change(5, 0)", q.change(5, 0), 6);
        due.is("waiting", View.waiting(q), "5,2,3,6");
    }

    private static void newOneIsNotPaused(Due due) {
        MergeQueue q = Made.filled(1, 1, 1, 1);
        due.is("pause(false)", q.pause(false), false);
        due.steps(q, 4);
    }

    private static void onAgain(Due due) {
        MergeQueue q = Made.filled(1, 1, 1, 1);
        q.pause(true);
        due.is("pause(true) again", q.pause(true), false);
        due.steps(q, 0);
        due.is("pause(true) once more", q.pause(true), false);
        due.is("pause(false)", q.pause(false), true);
    }

    private static void offAgain(Due due) {
        MergeQueue q = Made.filled(1, 1, 1, 1);
        q.pause(true);
        q.pause(false);
        due.is("pause(false) again", q.pause(false), false);
        due.steps(q, 4);
        due.is("pause(true)", q.pause(true), true);
    }
}
