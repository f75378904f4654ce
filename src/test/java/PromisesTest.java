/** Each promise of the document by hand: ordinary inputs, its edges, and wrong inputs. */
public final class PromisesTest {
    private static final int MIN = Integer.MIN_VALUE;
    private static final int MAX = Integer.MAX_VALUE;
    private static final int NONE = -2147483647;
    private static final int BAD_THREAD = -1;
    private static final int BAD_OP = -2;
    private static final int FULL = -3;
    private static final int BAD_VARIABLE = -4;
    private static final int[] WRONG_THREADS = {-1, 3, 4, MIN, MAX};
    private static final int[] WRONG_VARIABLES = {-1, 4, 5, MIN, MAX};

    public static void main(String[] args) {
        promise1NewObject();
        promise1ObjectsAreApart();
        promise2EmitCounts();
        promise2EmitRefuses();
        promise2EmitThatIsRefusedChangesNothing();
        promise3Begin();
        promise4Drop();
        promise5CanComplete();
        promise6CanStick();
        promise7CanFail();
        promise7CanFailNoMore();
        promise8CanEnd();
        promise9CanEndBoth();
        promises10And11LeastAndGreatest();
        promises10And11ExtremeValues();
        promise12LeastRegister();
        promise13Settled();
        promise13SettledLooksAtEveryVariable();
        promise14OrderOfEmit();
        promise14WrongBeforeNone();
        mostRuns();
        questionsChangeNothing();
        Due.end();
    }

    private static void promise1NewObject() {
        InterleaveExplorer x = new InterleaveExplorer();
        Due.yes("1: the run of no instructions is complete", x.canComplete());
        Due.no("1: and not stuck", x.canStick());
        Due.yes("1: and settled", x.settled());
        for (int thread = 0; thread < 3; thread++) {
            Due.no("1: canFail", x.canFail(thread));
            Due.is("1: leastRegister 0", x.leastRegister(thread, 0), 0);
            Due.is("1: leastRegister 1", x.leastRegister(thread, 1), 0);
            Due.is("1: drop", x.drop(thread), 0);
        }
        for (int variable = 0; variable < 4; variable++) {
            Due.is("1: least", x.least(variable), 0);
            Due.is("1: greatest", x.greatest(variable), 0);
            Due.yes("1: canEnd with 0", x.canEnd(variable, 0));
            Due.no("1: canEnd with 1", x.canEnd(variable, 1));
            Due.is("1: begin", x.begin(variable, 5), 0);
        }
    }

    private static void promise1ObjectsAreApart() {
        InterleaveExplorer x = new InterleaveExplorer();
        InterleaveExplorer y = new InterleaveExplorer();
        x.emit(0, Op.PUT, 3, 0);
        x.begin(1, 4);
        Due.is("1: another object's instructions", y.drop(0), 0);
        Due.is("1: another object's variables", y.least(1), 0);
        Due.is("1: this object's", x.least(0), 3);
    }

    private static void promise2EmitCounts() {
        InterleaveExplorer x = new InterleaveExplorer();
        for (int count = 1; count <= 5; count++) {
            Due.is("2: emit to thread 0", x.emit(0, count - 1, 0, 0), count);
        }
        Due.is("2: a sixth in a thread", x.emit(0, Op.ADD, 0, 0), FULL);
        for (int count = 1; count <= 4; count++) {
            Due.is("2: emit to thread 2", x.emit(2, count + 4, 0, 0), count);
        }
        Due.is("2: the tenth", x.emit(1, Op.ADD, MIN, MAX), 1);
        Due.is("2: an eleventh, its thread having one", x.emit(1, Op.ADD, 0, 0), FULL);
        Due.is("2: an eleventh, its thread having four", x.emit(2, Op.ADD, 0, 0), FULL);
        Due.is("2: the first thread still has five", x.drop(0), 5);
        Due.is("2: the second has one", x.drop(1), 1);
        Due.is("2: the third has four", x.drop(2), 4);
    }

    private static void promise2EmitRefuses() {
        InterleaveExplorer x = new InterleaveExplorer();
        for (int thread : WRONG_THREADS) {
            Due.is("2: emit to thread " + thread, x.emit(thread, Op.ADD, 0, 1), BAD_THREAD);
        }
        for (int op : new int[] {-1, 9, 10, MIN, MAX}) {
            Due.is("2: emit of op " + op, x.emit(0, op, 0, 1), BAD_OP);
        }
        for (int op = 0; op <= 8; op++) {
            Due.is("2: emit of op " + op, x.emit(op % 3, op, 0, 1), op / 3 + 1);
        }
    }

    private static void promise2EmitThatIsRefusedChangesNothing() {
        InterleaveExplorer x = new InterleaveExplorer();
        x.emit(0, Op.PUT, 1, 0);
        x.emit(3, Op.PUT, 2, 0);
        x.emit(-1, Op.PUT, 2, 0);
        x.emit(0, 9, 2, 0);
        x.emit(0, -1, 2, 0);
        Due.is("2: after BAD_THREAD and BAD_OP, the end", x.greatest(0), 1);
        Due.is("2: after BAD_THREAD and BAD_OP, the next", x.emit(0, Op.PUT, 3, 0), 2);
        x.emit(0, Op.PUT, 4, 0);
        x.emit(0, Op.PUT, 5, 0);
        x.emit(0, Op.PUT, 6, 0);
        x.emit(0, Op.PUT, 7, 0);
        Due.is("2: after FULL, least", x.least(0), 6);
        Due.is("2: after FULL, greatest", x.greatest(0), 6);
        Due.is("2: after FULL, the next thread has none", x.drop(1), 0);
        x.emit(1, Op.PUT, 8, 1);
        Due.is("2: the first of thread 1 does not touch thread 0", x.greatest(0), 6);
        Due.is("2: a thread goes in the order of its emits", x.greatest(1), 8);
    }

    private static void promise3Begin() {
        InterleaveExplorer x = new InterleaveExplorer();
        Due.is("3: the first value is 0", x.begin(2, 11), 0);
        Due.is("3: then what was set", x.begin(2, MIN), 11);
        Due.is("3: any int", x.begin(2, MAX), MIN);
        Due.is("3: the end of the empty run", x.least(2), MAX);
        Due.is("3: other variables stay", x.greatest(1), 0);
        for (int variable : WRONG_VARIABLES) {
            Due.is("3: begin of variable " + variable, x.begin(variable, 9), BAD_VARIABLE);
        }
        Due.is("3: nothing changed, least", x.least(2), MAX);
        for (int variable = 0; variable < 4; variable++) {
            Due.is("3: nothing changed, begin", x.begin(variable, variable + 1), variable == 2 ? MAX : 0);
        }
        x.emit(0, Op.PUT, 50, 3);
        Due.is("3: a run that writes", x.least(3), 50);
        Due.is("3: does not change what the variable begins with", x.begin(3, 60), 4);
        x.drop(0);
        Due.is("3: what was set stays when instructions go", x.least(3), 60);
        x.begin(3, 61);
        Due.is("3: a question after it sees the new value", x.least(3), 61);
    }

    private static void promise4Drop() {
        InterleaveExplorer x = Programs.lockedUpdate();
        for (int thread : WRONG_THREADS) {
            Due.is("4: drop of thread " + thread, x.drop(thread), BAD_THREAD);
        }
        Due.is("4: nothing changed", x.least(0), 2);
        Due.is("4: how many it had", x.drop(0), 5);
        Due.is("4: and none are left", x.drop(0), 0);
        Due.is("4: the other thread's are left", x.least(0), 1);
        Due.is("4: there is room again", x.emit(0, Op.PUT, 7, 3), 1);
        Due.is("4: the old instructions do not come back", x.greatest(0), 1);
        Due.is("4: the new one counts", x.least(3), 7);
        Due.is("4: the other thread had", x.drop(1), 5);
        Due.is("4: a thread without instructions", x.drop(2), 0);
        Due.is("4: all but thread 0's are gone", x.greatest(0), 0);
    }

    private static void promise5CanComplete() {
        Due.yes("5: without waiting", Programs.lostUpdate().canComplete());
        Due.yes("5: some run is complete, though one is stuck", Programs.crossedLocks().canComplete());
        Due.no("5: every run is stuck", Programs.neverComplete().canComplete());
        InterleaveExplorer x = new InterleaveExplorer();
        x.emit(0, Op.CHECK, 0, 1);
        Due.no("5: every run fails", x.canComplete());
        x.drop(0);
        x.emit(0, Op.LOAD, 0, 0);
        x.emit(0, Op.CHECK, 0, 1);
        x.emit(1, Op.PUT, 1, 0);
        Due.yes("5: some run is complete, though one fails", x.canComplete());
        x.emit(2, Op.AWAIT, 3, 1);
        Due.no("5: all threads have to finish", x.canComplete());
    }

    private static void promise6CanStick() {
        Due.no("6: without waiting", Programs.lostUpdate().canStick());
        Due.no("6: one lock, given back", Programs.lockedUpdate().canStick());
        Due.yes("6: crossed locks", Programs.crossedLocks().canStick());
        Due.yes("6: waiting for what never comes", Programs.neverComplete().canStick());
        InterleaveExplorer x = Programs.neverComplete();
        x.emit(0, Op.PUT, 1, 0);
        Due.no("6: waiting for what always comes", x.canStick());
        x.emit(0, Op.PUT, 2, 0);
        Due.yes("6: waiting for what may have passed", x.canStick());
        x.drop(0);
        x.emit(2, Op.CHECK, 0, 1);
        Due.no("6: each run fails before it can be stuck", x.canStick());
        x.drop(2);
        x.emit(2, Op.CHECK, 0, 0);
        Due.yes("6: a CHECK that holds does not end the run", x.canStick());
    }

    private static void promise7CanFail() {
        InterleaveExplorer x = new InterleaveExplorer();
        x.emit(0, Op.LOAD, 0, 0);
        x.emit(0, Op.CHECK, 0, 1);
        x.emit(1, Op.PUT, 1, 0);
        x.emit(2, Op.CHECK, 1, 0);
        Due.yes("7: in some runs", x.canFail(0));
        Due.no("7: another thread's CHECK", x.canFail(1));
        Due.no("7: a CHECK that always holds", x.canFail(2));
        for (int thread : WRONG_THREADS) {
            Due.no("7: thread " + thread, x.canFail(thread));
        }
        x.drop(2);
        x.emit(2, Op.CHECK, 1, 5);
        Due.yes("7: each of two threads, the first", x.canFail(0));
        Due.yes("7: each of two threads, the other", x.canFail(2));
        x.drop(0);
        x.drop(2);
        x.emit(0, Op.CHECK, 0, 1);
        x.emit(0, Op.PUT, 1, 1);
        x.emit(2, Op.AWAIT, 1, 1);
        x.emit(2, Op.CHECK, 0, 1);
        Due.yes("7: the run ends when it fails", x.canFail(0));
        Due.no("7: so what would come after it does not fail", x.canFail(2));
        InterleaveExplorer y = Programs.crossedLocks();
        y.emit(1, Op.CHECK, 0, 1);
        Due.yes("7: a run can fail where others are stuck", y.canFail(1));
    }

    private static void promise7CanFailNoMore() {
        for (int thread = 0; thread < 3; thread++) {
            InterleaveExplorer x = new InterleaveExplorer();
            x.emit(thread, Op.CHECK, 0, 1);
            Due.yes("7: while the CHECK is there", x.canFail(thread));
            x.drop(thread);
            Due.no("7: when it is dropped", x.canFail(thread));
        }
    }

    private static void promise8CanEnd() {
        InterleaveExplorer x = Programs.lostUpdate();
        Due.no("8: 0", x.canEnd(0, 0));
        Due.yes("8: 1, an update lost", x.canEnd(0, 1));
        Due.yes("8: 2", x.canEnd(0, 2));
        Due.no("8: 3", x.canEnd(0, 3));
        Due.yes("8: an untouched variable", x.canEnd(3, 0));
        for (int variable : WRONG_VARIABLES) {
            Due.no("8: variable " + variable, x.canEnd(variable, 0));
        }
        InterleaveExplorer y = Programs.lockedUpdate();
        Due.no("8: with a lock, 1", y.canEnd(0, 1));
        Due.yes("8: with a lock, 2", y.canEnd(0, 2));
        InterleaveExplorer z = Programs.neverComplete();
        Due.no("8: a stuck run does not count", z.canEnd(0, 0));
        z.drop(1);
        z.emit(0, Op.PUT, 5, 1);
        z.emit(0, Op.CHECK, 0, 1);
        Due.no("8: a run that fails does not count", z.canEnd(1, 5));
        Due.no("8: nor does NONE when there is no complete run", z.canEnd(1, NONE));
    }

    private static void promise9CanEndBoth() {
        InterleaveExplorer x = new InterleaveExplorer();
        x.emit(0, Op.PUT, 1, 0);
        x.emit(0, Op.PUT, 1, 3);
        x.emit(1, Op.PUT, 2, 0);
        x.emit(1, Op.PUT, 2, 3);
        Due.yes("9: 1 and 1", x.canEndBoth(0, 1, 3, 1));
        Due.yes("9: 2 and 2", x.canEndBoth(0, 2, 3, 2));
        Due.yes("9: 1 and 2", x.canEndBoth(0, 1, 3, 2));
        Due.yes("9: 2 and 1, named the other way", x.canEndBoth(3, 1, 0, 2));
        Due.no("9: the first can't be", x.canEndBoth(0, 0, 3, 1));
        Due.no("9: the second can't be", x.canEndBoth(0, 1, 3, 0));
        Due.yes("9: one variable twice, one value", x.canEndBoth(3, 2, 3, 2));
        Due.no("9: one variable twice, two values", x.canEndBoth(0, 1, 0, 2));
        for (int variable : WRONG_VARIABLES) {
            Due.no("9: first variable " + variable, x.canEndBoth(variable, 0, 1, 0));
            Due.no("9: second variable " + variable, x.canEndBoth(1, 0, variable, 0));
            Due.no("9: both variables " + variable, x.canEndBoth(variable, 0, variable, 0));
        }
        InterleaveExplorer y = new InterleaveExplorer();
        y.emit(0, Op.PUT, 1, 0);
        y.emit(1, Op.LOAD, 0, 0);
        y.emit(1, Op.STORE, 0, 1);
        y.emit(1, Op.STORE, 0, 2);
        Due.yes("9: each alone, 0", y.canEnd(1, 0));
        Due.yes("9: each alone, 1", y.canEnd(2, 1));
        Due.no("9: but in no single run", y.canEndBoth(1, 0, 2, 1));
        Due.no("9: a stuck run does not count", Programs.neverComplete().canEndBoth(0, 0, 1, 0));
    }

    private static void promises10And11LeastAndGreatest() {
        InterleaveExplorer x = Programs.lostUpdate();
        x.begin(0, -1);
        x.begin(2, -9);
        Due.is("10: least", x.least(0), 0);
        Due.is("11: greatest", x.greatest(0), 1);
        Due.is("10: an untouched variable", x.least(2), -9);
        Due.is("11: an untouched variable", x.greatest(2), -9);
        for (int variable : WRONG_VARIABLES) {
            Due.is("10: variable " + variable, x.least(variable), BAD_VARIABLE);
            Due.is("11: variable " + variable, x.greatest(variable), BAD_VARIABLE);
        }
        InterleaveExplorer y = new InterleaveExplorer();
        y.emit(0, Op.PUT, 7, 1);
        y.emit(0, Op.PUT, 1, 1);
        y.emit(1, Op.PUT, 3, 1);
        Due.is("10: only the end counts", y.least(1), 1);
        Due.is("11: only the end counts", y.greatest(1), 3);
        y.emit(2, Op.AWAIT, 1, 7);
        y.emit(2, Op.PUT, 9, 2);
        Due.is("10: stuck runs do not count", y.least(2), 9);
        Due.is("11: stuck runs do not count", y.greatest(2), 9);
    }

    private static void promises10And11ExtremeValues() {
        InterleaveExplorer x = new InterleaveExplorer();
        x.emit(0, Op.PUT, MIN, 0);
        Due.is("10: a value below NONE", x.least(0), MIN);
        Due.is("11: a value below NONE", x.greatest(0), MIN);
        x.emit(1, Op.PUT, MAX, 0);
        Due.is("10: the least int of all", x.least(0), MIN);
        Due.is("11: the greatest int of all", x.greatest(0), MAX);
        x.drop(0);
        Due.is("10: the greatest int alone", x.least(0), MAX);
        x.drop(1);
        x.emit(2, Op.PUT, NONE, 3);
        x.emit(1, Op.PUT, NONE + 2, 3);
        Due.is("10: NONE as a value", x.least(3), NONE);
        Due.is("11: beside NONE as a value", x.greatest(3), NONE + 2);
        InterleaveExplorer y = Programs.neverComplete();
        for (int variable = 0; variable < 4; variable++) {
            Due.is("10: no run is complete", y.least(variable), NONE);
            Due.is("11: no run is complete", y.greatest(variable), NONE);
        }
    }

    private static void promise12LeastRegister() {
        InterleaveExplorer x = new InterleaveExplorer();
        x.begin(0, 5);
        x.emit(0, Op.LOAD, 1, 0);
        x.emit(0, Op.LOAD, 0, 1);
        x.emit(1, Op.PUT, 3, 0);
        x.emit(1, Op.PUT, MIN, 1);
        x.emit(2, Op.LOAD, 0, 0);
        x.emit(2, Op.CHECK, 0, 5);
        Due.is("12: register 1 of thread 0", x.leastRegister(0, 1), 3);
        Due.is("12: register 0 of thread 0", x.leastRegister(0, 0), MIN);
        Due.is("12: runs that fail do not count", x.leastRegister(2, 0), 5);
        Due.is("12: a register that nothing writes", x.leastRegister(2, 1), 0);
        Due.is("12: r is r & 1: 3", x.leastRegister(0, 3), 3);
        Due.is("12: r is r & 1: -1", x.leastRegister(0, -1), 3);
        Due.is("12: r is r & 1: 2", x.leastRegister(0, 2), MIN);
        Due.is("12: r is r & 1: the least int", x.leastRegister(0, MIN), MIN);
        Due.is("12: r is r & 1: the greatest int", x.leastRegister(0, MAX), 3);
        for (int thread : WRONG_THREADS) {
            Due.is("12: thread " + thread, x.leastRegister(thread, 0), BAD_THREAD);
        }
        InterleaveExplorer y = Programs.neverComplete();
        for (int thread = 0; thread < 3; thread++) {
            Due.is("12: no run is complete", y.leastRegister(thread, thread), NONE);
        }
    }

    private static void promise13Settled() {
        Due.no("13: an update can be lost", Programs.lostUpdate().settled());
        Due.yes("13: under a lock", Programs.lockedUpdate().settled());
        Due.no("13: some run is stuck", Programs.crossedLocks().settled());
        Due.no("13: no run is complete", Programs.neverComplete().settled());
        InterleaveExplorer x = new InterleaveExplorer();
        x.emit(0, Op.PUT, 1, 0);
        x.emit(1, Op.LOAD, 0, 0);
        Due.yes("13: registers may differ", x.settled());
        x.emit(1, Op.CHECK, 0, 1);
        Due.no("13: some run fails", x.settled());
        for (int thread = 0; thread < 3; thread++) {
            InterleaveExplorer y = new InterleaveExplorer();
            y.emit(thread, Op.LOAD, 0, 0);
            y.emit(thread, Op.CHECK, 0, 0);
            y.emit((thread + 1) % 3, Op.PUT, 1, 0);
            Due.no("13: some run fails by thread " + thread, y.settled());
        }
    }

    private static void promise13SettledLooksAtEveryVariable() {
        for (int variable = 0; variable < 4; variable++) {
            InterleaveExplorer x = new InterleaveExplorer();
            x.emit(0, Op.PUT, 1, variable);
            x.emit(2, Op.PUT, 2, variable);
            Due.no("13: variable " + variable + " differs", x.settled());
            x.emit(2, Op.AWAIT, variable, 2);
            x.drop(0);
            Due.yes("13: variable " + variable + " is the same", x.settled());
        }
    }

    private static void promise14OrderOfEmit() {
        InterleaveExplorer x = Programs.lockedUpdate();
        Due.is("14: wrong thread and op, and full", x.emit(3, 9, 0, 0), BAD_THREAD);
        Due.is("14: wrong thread, and full", x.emit(-1, Op.ADD, 0, 0), BAD_THREAD);
        Due.is("14: wrong op, the thread full", x.emit(0, 9, 0, 0), BAD_OP);
        Due.is("14: wrong op, all together full", x.emit(2, -1, 0, 0), BAD_OP);
        Due.is("14: full alone", x.emit(2, Op.ADD, 0, 0), FULL);
        InterleaveExplorer y = new InterleaveExplorer();
        Due.is("14: wrong thread and op", y.emit(MIN, MAX, 0, 0), BAD_THREAD);
    }

    private static void promise14WrongBeforeNone() {
        InterleaveExplorer x = Programs.neverComplete();
        for (int variable : WRONG_VARIABLES) {
            Due.is("14: least of " + variable, x.least(variable), BAD_VARIABLE);
            Due.is("14: greatest of " + variable, x.greatest(variable), BAD_VARIABLE);
        }
        for (int thread : WRONG_THREADS) {
            Due.is("14: leastRegister of thread " + thread, x.leastRegister(thread, 0), BAD_THREAD);
        }
    }

    /** Ten instructions split 4, 3, 3 have 4200 orders, the most there are; the last may count too. */
    private static void mostRuns() {
        int[] sizes = {4, 3, 3};
        for (int shift = 0; shift < 3; shift++) {
            InterleaveExplorer x = new InterleaveExplorer();
            for (int thread = 0; thread < 3; thread++) {
                int size = sizes[(thread + shift) % 3];
                for (int count = 1; count < size; count++) {
                    x.emit(thread, Op.ADD, 0, 1);
                }
                x.emit(thread, Op.PUT, thread + 1, 0);
            }
            Due.is("the most runs: least", x.least(0), 1);
            Due.is("the most runs: greatest", x.greatest(0), 3);
            Due.yes("the most runs: canEnd", x.canEnd(0, 2));
            Due.no("the most runs: settled", x.settled());
        }
    }

    private static void questionsChangeNothing() {
        InterleaveExplorer x = Programs.lostUpdate();
        x.emit(2, Op.AWAIT, 0, 1);
        x.emit(2, Op.CHECK, 0, 0);
        for (int round = 0; round < 3; round++) {
            Due.yes("again: canComplete", x.canComplete());
            Due.yes("again: canStick", x.canStick());
            Due.no("again: canFail", x.canFail(2));
            Due.yes("again: canEnd", x.canEnd(0, 1));
            Due.yes("again: canEndBoth", x.canEndBoth(0, 2, 1, 0));
            Due.is("again: least", x.least(0), 1);
            Due.is("again: greatest", x.greatest(0), 2);
            Due.is("again: leastRegister", x.leastRegister(0, 0), 1);
            Due.no("again: settled", x.settled());
        }
        Due.is("again: begin", x.begin(0, 0), 0);
        Due.is("again: emit", x.emit(2, Op.ADD, 0, 0), 3);
        Due.is("again: drop", x.drop(1), 3);
    }
}
