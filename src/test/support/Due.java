/** Compares answers with those that are due, prints each that differs, and ends the test. */
public final class Due {
    private int wrong;

    public void is(String call, int got, int want) {
        if (got != want) {
            tell(call + " answered " + got + ", due is " + want);
        }
    }

    public void is(String call, boolean got, boolean want) {
        if (got != want) {
            tell(call + " answered " + got + ", due is " + want);
        }
    }

    public void is(String call, String got, String want) {
        if (!got.equals(want)) {
            tell(call + " answered " + got + ", due is " + want);
        }
    }

    /** Does a step for each kind, which is the one that is due. */
    public void steps(MergeQueue q, int... kinds) {
        for (int i = 0; i < kinds.length; i++) {
            is("step() " + i, q.step(), kinds[i]);
        }
    }

    public void tell(String fault) {
        wrong++;
        System.out.println(fault);
    }

    public boolean hasFaults() {
        return wrong > 0;
    }

    public void finish() {
        if (wrong > 0) {
            System.out.println(wrong + " answers are not as due");
            System.exit(1);
        }
    }
}
