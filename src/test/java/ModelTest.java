/**
 * Runs of mixed calls, the same each time, on the class and on the Model. A run has at most 512
 * calls, as the document allows: so what is looked at is drawn as well, and not all of it each time.
 */
public final class ModelTest {
    private static final int RUNS = 6000;
    private static final int CALLS = 512;
    private static final Due DUE = new Due();

    // Every promise 2 to 17 and every kind of a step must have been seen, or the runs prove little.
    private static final int[] STEPS_SEEN = new int[5];
    private static final int[] WHYS_SEEN = new int[4];
    private static int mostGroups;

    private long seed;
    private final MergeQueue real;
    private final Model model;
    private final int passing;
    private final int conflicting;
    private final int leaving;
    private int added;

    private ModelTest(int run) {
        seed = run * 7919L + 17;
        int most = draw(11) - 1;
        int width = draw(7) - 1;
        int again = draw(6) - 1;
        real = new MergeQueue(most, width, again);
        model = new Model(most, width, again);
        passing = 30 + draw(65);
        conflicting = draw(3) == 0 ? 0 : 1 + draw(12);
        leaving = draw(4);
    }

    public static void main(String[] args) {
        for (int run = 0; run < RUNS && !DUE.hasFaults(); run++) {
            ModelTest test = new ModelTest(run);
            for (int call = 0; call < CALLS && !DUE.hasFaults(); call++) {
                test.callOnce("run " + run + ", call " + call + ": ");
            }
        }
        for (int kind = 0; kind < STEPS_SEEN.length; kind++) {
            DUE.is("steps of kind " + kind + " were seen", STEPS_SEEN[kind] > 1000, true);
        }
        for (int why = 1; why < WHYS_SEEN.length; why++) {
            DUE.is("changes out by " + why + " were seen", WHYS_SEEN[why] > 1000, true);
        }
        DUE.is("the most groups that stood at once", mostGroups, 7);
        DUE.finish();
    }

    private int draw(int below) {
        seed = seed * 6364136223846793005L + 1442695040888963407L;
        return (int) ((seed >>> 33) % below);
    }

    private void callOnce(String at) {
        int kind = draw(100);
        if (kind < 45) {
            look(at);
        } else if (kind < 72) {
            stepBoth(at);
        } else if (kind < 84) {
            answerBoth(at);
        } else {
            disturb(at, draw(40));
        }
    }

    private void stepBoth(String at) {
        int kind = model.step();
        DUE.is(at + "step()", real.step(), kind);
        DUE.is(at + "sound", model.isSound(), true);
        STEPS_SEEN[kind]++;
        mostGroups = Math.max(mostGroups, model.groups());
    }

    private void answerBoth(String at) {
        int group = draw(6) == 0 ? draw(9) - 1 : draw(Math.max(1, model.groups()));
        boolean passes = draw(100) < passing;
        DUE.is(at + "answer(" + group + ", " + passes + ")", real.answer(group, passes), model.answer(group, passes));
    }

    private void disturb(String at, int kind) {
        int a = draw(added + 3) - 1;
        int b = draw(added + 3) - 1;
        if (kind < 20) {
            addBoth(at);
        } else if (kind < 20 + conflicting) {
            DUE.is(at + "conflict(" + a + ", " + b + ")", real.conflict(a, b), model.conflict(a, b));
        } else if (kind < 36) {
            DUE.is(at + "jump(" + a + ")", real.jump(a), model.jump(a));
        } else if (kind < 36 + leaving) {
            DUE.is(at + "leave(" + a + ")", real.leave(a), model.leave(a));
        } else {
            boolean on = draw(4) == 0;
            DUE.is(at + "pause(" + on + ")", real.pause(on), model.pause(on));
        }
    }

    private void addBoth(String at) {
        int rank = draw(8) == 0 ? draw(14) - 2 : draw(10);
        int parts = 1 << draw(32) | 1 << draw(32);
        int number = model.change(rank, parts);
        DUE.is(at + "change(" + rank + ", " + parts + ")", real.change(rank, parts), number);
        added = Math.max(added, number + 1);
    }

    private void look(String at) {
        int change = draw(added + 3) - 1;
        int group = draw(model.groups() + 2) - 1;
        switch (draw(9)) {
            case 0: DUE.is(at + "groups()", real.groups(), model.groups()); break;
            case 1: lookAtGroup(at, group, draw(6) - 1); break;
            case 2: lookAtMember(at, group, draw(10) - 1); break;
            case 3: lookAtRows(at, draw(42) - 1); break;
            case 4: DUE.is(at + "where(" + change + ")", real.where(change), model.where(change)); break;
            case 5: lookAtWhy(at, change); break;
            case 6: DUE.is(at + "by(" + change + ")", real.by(change), model.by(change)); break;
            default: lookAtCounted(at, draw(6) - 1); break;
        }
    }

    private void lookAtGroup(String at, int group, int what) {
        DUE.is(at + "group(" + group + ", " + what + ")", real.group(group, what), model.group(group, what));
    }

    private void lookAtMember(String at, int group, int k) {
        DUE.is(at + "member(" + group + ", " + k + ")", real.member(group, k), model.member(group, k));
    }

    private void lookAtRows(String at, int k) {
        if (draw(2) == 0) {
            DUE.is(at + "landed(" + k + ")", real.landed(k), model.landed(k));
        } else {
            int near = k / (1 + draw(8));
            DUE.is(at + "waiting(" + near + ")", real.waiting(near), model.waiting(near));
        }
    }

    private void lookAtWhy(String at, int change) {
        int why = model.why(change);
        DUE.is(at + "why(" + change + ")", real.why(change), why);
        if (why > 0) {
            WHYS_SEEN[why]++;
        }
    }

    private void lookAtCounted(String at, int what) {
        DUE.is(at + "counted(" + what + ")", real.counted(what), model.counted(what));
    }
}
