import java.util.function.IntUnaryOperator;

/** Compares answers with those that are due, prints each that differs, and ends the test. */
public final class Due {
    private static final long LONGEST_MILLIS = 5 * 60 * 1000L;

    private volatile String part = "";
    private int compared;
    private int wrong;

    /** A call that never ends is a fault as well: without this, the tests would wait for it. */
    public Due() {
        Thread watch = new Thread(this::endLate);
        watch.setDaemon(true);
        watch.start();
    }

    private void endLate() {
        try {
            Thread.sleep(LONGEST_MILLIS);
        } catch (InterruptedException stopped) {
            return;
        }
        System.out.println(part + "has not ended");
        Runtime.getRuntime().halt(1);
    }

    /** Runs the test of one part; what is told in it bears the part's name. */
    public void in(String name, Runnable test) {
        int before = compared;
        part = name + ": ";
        try {
            test.run();
        } catch (RuntimeException thrown) {
            tell("threw " + thrown);
        }
        if (compared == before) {
            tell("compared nothing");
        }
        part = "";
    }

    public void is(String call, int got, int want) {
        compare(call, String.valueOf(got), String.valueOf(want));
    }

    public void is(String call, boolean got, boolean want) {
        compare(call, String.valueOf(got), String.valueOf(want));
    }

    public void is(String call, String got, String want) {
        compare(call, got, want);
    }

    private void compare(String call, String got, String want) {
        compared++;
        if (!got.equals(want)) {
            tell(call + " answered " + got + ", due is " + want);
        }
    }

    /** The call answers the same for each of the arguments. */
    public void each(String call, int[] arguments, IntUnaryOperator asked, int want) {
        for (int argument : arguments) {
            is(call + " of " + argument, asked.applyAsInt(argument), want);
        }
    }

    /** Does a step for each kind, which is the one that is due. */
    public void steps(MergeQueue q, int... kinds) {
        for (int i = 0; i < kinds.length; i++) {
            is("step() " + i, q.step(), kinds[i]);
        }
    }

    /** What the object shows is the same before and after the calls. */
    public void unchanged(MergeQueue q, Runnable calls) {
        String before = View.all(q);
        calls.run();
        is("all that is shown", View.all(q), before);
    }

    public void tell(String fault) {
        wrong++;
        System.out.println(part + fault);
    }

    public boolean hasFaults() {
        return wrong > 0;
    }

    public void finish() {
        if (wrong > 0) {
            System.out.println(wrong + " answers are not as due");
            System.exit(1);
        }
    }
}
