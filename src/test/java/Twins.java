import java.util.function.Consumer;

/**
 * Two objects made alike, one of which gets calls that are to change nothing: from then on both
 * must answer alike, whatever is asked of them and however they change.
 */
final class Twins {
    private final String what;
    private final InterleaveExplorer one = new InterleaveExplorer();
    private final InterleaveExplorer other = new InterleaveExplorer();

    private Twins(String what) {
        this.what = what;
    }

    /**
     * With questions ahead of the calls and without, since the object may keep what it found; and
     * with questions first or changes first after them, since asking both could hide a difference.
     */
    static void stayAlike(String what, Consumer<InterleaveExplorer> program, Consumer<InterleaveExplorer> calls) {
        for (int way = 0; way < 4; way++) {
            boolean askBefore = way % 2 == 1;
            boolean askFirst = way / 2 == 1;
            Twins twins = new Twins(what + (askBefore ? ", after questions: " : ": "));
            program.accept(twins.one);
            program.accept(twins.other);
            if (askBefore) {
                twins.askAll();
            }
            calls.accept(twins.one);
            if (askFirst) {
                twins.askAll();
            }
            twins.changeBoth();
        }
    }

    private void changeBoth() {
        for (int variable = 0; variable < 4; variable++) {
            is("begin of " + variable, one.begin(variable, variable + 1), other.begin(variable, variable + 1));
        }
        askAll();
        for (int thread = 0; thread < 3; thread++) {
            is("emit to " + thread, one.emit(thread, Op.SWAP, 0, 3), other.emit(thread, Op.SWAP, 0, 3));
        }
        askAll();
        for (int thread = 0; thread < 3; thread++) {
            is("drop of " + thread, one.drop(thread), other.drop(thread));
        }
        askAll();
    }

    private void askAll() {
        is("canComplete", one.canComplete(), other.canComplete());
        is("canStick", one.canStick(), other.canStick());
        is("settled", one.settled(), other.settled());
        for (int thread = 0; thread < 3; thread++) {
            is("canFail of " + thread, one.canFail(thread), other.canFail(thread));
            for (int r = 0; r < 2; r++) {
                is("leastRegister of " + thread + ", " + r, one.leastRegister(thread, r),
                        other.leastRegister(thread, r));
            }
        }
        for (int variable = 0; variable < 4; variable++) {
            is("least of " + variable, one.least(variable), other.least(variable));
            is("greatest of " + variable, one.greatest(variable), other.greatest(variable));
            for (int value = 0; value < 6; value++) {
                is("canEnd of " + variable + " with " + value, one.canEnd(variable, value),
                        other.canEnd(variable, value));
                is("canEndBoth of " + variable + " with " + value, one.canEndBoth(variable, value, 0, 1),
                        other.canEndBoth(variable, value, 0, 1));
            }
        }
    }

    private void is(String call, int got, int due) {
        Due.is(what + call, got, due);
    }

    private void is(String call, boolean got, boolean due) {
        Due.is(what + call, got, due);
    }
}
