import java.util.function.Consumer;

/** Promises 1 to 14, sentence by sentence, at the edges that each names. */
public final class PromiseBoundsTest {
    private static final int MIN = Ints.MIN;
    private static final int MAX = Ints.MAX;
    private static final int NONE = -2147483647;
    private static final int BAD_THREAD = -1;
    private static final int BAD_OP = -2;
    private static final int FULL = -3;
    private static final int BAD_VARIABLE = -4;

    public static void main(String[] args) {
        promises1To4();
        promises5To9();
        promises10To14();
        Due.end();
    }

    private static void promises1To4() {
        Due.sentence("1: No instructions", PromiseBoundsTest::noInstructions);
        Due.sentence("1: variables begin with 0", PromiseBoundsTest::variablesBeginWithZero);
        Due.sentence("2: Appends an instruction to a thread", PromiseBoundsTest::emitAppends);
        Due.sentence("2: thread not in 0 to 2: BAD_THREAD", PromiseBoundsTest::emitBadThread);
        Due.sentence("2: op not in 0 to 8: BAD_OP", PromiseBoundsTest::emitBadOp);
        Due.sentence("2: the thread has five: FULL", PromiseBoundsTest::emitFullThread);
        Due.sentence("2: or all together have ten: FULL", PromiseBoundsTest::emitAllFull);
        Due.sentence("2: nothing changes then (BAD_THREAD)", PromiseBoundsTest::emitBadThreadChangesNothing);
        Due.sentence("2: nothing changes then (BAD_OP)", PromiseBoundsTest::emitBadOpChangesNothing);
        Due.sentence("2: nothing changes then (FULL)", PromiseBoundsTest::emitFullChangesNothing);
        Due.sentence("2: Else answers how many the thread has", PromiseBoundsTest::emitAnswersHowMany);
        Due.sentence("3: Sets what a variable begins with", PromiseBoundsTest::beginSets);
        Due.sentence("3: variable not in 0 to 3: BAD_VARIABLE", PromiseBoundsTest::beginBadVariable);
        Due.sentence("3: nothing changes", PromiseBoundsTest::beginChangesNothing);
        Due.sentence("3: Else answers the old value", PromiseBoundsTest::beginAnswersTheOldValue);
        Due.sentence("4: Drops the instructions of a thread", PromiseBoundsTest::dropDrops);
        Due.sentence("4: BAD_THREAD", PromiseBoundsTest::dropBadThread);
        Due.sentence("4: nothing changes", PromiseBoundsTest::dropChangesNothing);
        Due.sentence("4: Else answers how many it had", PromiseBoundsTest::dropAnswersHowMany);
    }

    private static void promises5To9() {
        Due.sentence("5: Whether some run is complete", PromiseBoundsTest::canComplete);
        Due.sentence("6: Whether some run is stuck", PromiseBoundsTest::canStick);
        Due.sentence("7: Whether some run fails by a CHECK of this thread", PromiseBoundsTest::canFail);
        Due.sentence("7: false if thread not in 0 to 2", PromiseBoundsTest::canFailWrongThread);
        Due.sentence("8: some complete run ends with this variable being this value", PromiseBoundsTest::canEnd);
        Due.sentence("8: some complete run, so no other", PromiseBoundsTest::canEndOfCompleteRuns);
        Due.sentence("9: variable v being x and variable w being y", PromiseBoundsTest::canEndBoth);
        Due.sentence("9: some complete run, one and the same", PromiseBoundsTest::canEndBothInOneRun);
        Due.sentence("9: one variable named twice", PromiseBoundsTest::canEndBothOfOneVariable);
        Due.sentence("9: some complete run, so no other", PromiseBoundsTest::canEndBothOfCompleteRuns);
    }

    private static void promises10To14() {
        Due.sentence("10: The least value, 11: The greatest value", PromiseBoundsTest::leastAndGreatest);
        Due.sentence("10, 11: at the end of a complete run", PromiseBoundsTest::leastAndGreatestOfCompleteRuns);
        Due.sentence("10: BAD_VARIABLE (as the answer, tested first)", PromiseBoundsTest::leastBadVariable);
        Due.sentence("10: NONE", PromiseBoundsTest::leastNone);
        Due.sentence("11: BAD_VARIABLE", PromiseBoundsTest::greatestBadVariable);
        Due.sentence("11: NONE", PromiseBoundsTest::greatestNone);
        Due.sentence("12: The least value that register of a thread has", PromiseBoundsTest::leastRegister);
        Due.sentence("12: register r & 1", PromiseBoundsTest::leastRegisterOfAnyNumber);
        Due.sentence("12: BAD_THREAD", PromiseBoundsTest::leastRegisterBadThread);
        Due.sentence("12: NONE", PromiseBoundsTest::leastRegisterNone);
        Due.sentence("13: every run is complete", PromiseBoundsTest::settledEveryRunComplete);
        Due.sentence("13: all complete runs end with the same values", PromiseBoundsTest::settledSameValues);
        Due.sentence("13: of all four variables", PromiseBoundsTest::settledOfVariablesAlone);
        Due.sentence("13: a run of no instructions", PromiseBoundsTest::settledWithoutInstructions);
        Due.sentence("14: BAD_THREAD before BAD_OP", PromiseBoundsTest::badThreadBeforeBadOp);
        Due.sentence("14: BAD_THREAD before FULL", PromiseBoundsTest::badThreadBeforeFull);
        Due.sentence("14: BAD_OP before FULL", PromiseBoundsTest::badOpBeforeFull);
        Due.sentence("14: least: BAD_VARIABLE before NONE", PromiseBoundsTest::leastBadVariableBeforeNone);
        Due.sentence("14: greatest: BAD_VARIABLE before NONE", PromiseBoundsTest::greatestBadVariableBeforeNone);
        Due.sentence("14: leastRegister: BAD_THREAD before NONE", PromiseBoundsTest::badThreadBeforeNone);
    }

    private static void noInstructions() {
        InterleaveExplorer used = new InterleaveExplorer();
        Programs.emitPuts(used, 4, 3, 3);
        for (int thread = 0; thread < 3; thread++) {
            InterleaveExplorer x = new InterleaveExplorer();
            Due.is("drop of " + thread, x.drop(thread), 0);
            Due.is("emit to " + thread, x.emit(thread, Op.ADD, 0, 1), 1);
            InterleaveExplorer y = new InterleaveExplorer();
            Due.no("canFail of " + thread, y.canFail(thread));
            Due.is("register 0 of " + thread, y.leastRegister(thread, 0), 0);
            Due.is("register 1 of " + thread, y.leastRegister(thread, 1), 0);
        }
        InterleaveExplorer z = new InterleaveExplorer();
        Due.yes("canComplete", z.canComplete());
        Due.no("canStick", z.canStick());
        Due.yes("settled", z.settled());
        Due.is("the other object has its own", used.drop(0), 4);
    }

    private static void variablesBeginWithZero() {
        for (int variable = 0; variable < 4; variable++) {
            InterleaveExplorer used = new InterleaveExplorer();
            used.begin(variable, 9);
            InterleaveExplorer x = new InterleaveExplorer();
            Due.is("least", x.least(variable), 0);
            Due.is("greatest", x.greatest(variable), 0);
            Due.yes("canEnd with 0", x.canEnd(variable, 0));
            Due.no("canEnd with 1", x.canEnd(variable, 1));
            Due.yes("canEndBoth", x.canEndBoth(variable, 0, 3 - variable, 0));
            Due.is("begin", x.begin(variable, 5), 0);
            Due.is("the other object has its own", used.least(variable), 9);
        }
    }

    private static void emitAppends() {
        for (int thread = 0; thread < 3; thread++) {
            InterleaveExplorer x = new InterleaveExplorer();
            for (int count = 1; count <= 5; count++) {
                x.emit(thread, Op.PUT, count, 0);
                x.emit((thread + 1) % 3, Op.PUT, 10 + count, 1);
                Due.is("behind those the thread has", x.least(0), count);
                Due.is("behind those the thread has, greatest", x.greatest(0), count);
                Due.is("and the other thread its own", x.least(1), 10 + count);
            }
            Due.is("each thread has its own", x.drop((thread + 2) % 3), 0);
            Due.is("each thread has its own five", x.drop(thread), 5);
            Due.is("the other's stay", x.least(1), 15);
            Due.is("the thread's are gone", x.greatest(0), 0);
        }
    }

    private static void emitBadThread() {
        for (int thread : Ints.wrongThreads()) {
            for (int op = 0; op <= 8; op++) {
                InterleaveExplorer x = new InterleaveExplorer();
                Due.is("thread " + thread + ", op " + op, x.emit(thread, op, 0, 1), BAD_THREAD);
            }
        }
        for (int thread = 0; thread <= 2; thread++) {
            Due.is("thread " + thread, new InterleaveExplorer().emit(thread, Op.ADD, 0, 1), 1);
        }
    }

    private static void emitBadOp() {
        for (int op : Ints.wrongOps()) {
            for (int thread = 0; thread <= 2; thread++) {
                InterleaveExplorer x = new InterleaveExplorer();
                Due.is("op " + op + ", thread " + thread, x.emit(thread, op, 0, 1), BAD_OP);
            }
        }
        for (int op = 0; op <= 8; op++) {
            for (int number : Ints.any()) {
                InterleaveExplorer x = new InterleaveExplorer();
                Due.is("op " + op + " with any a", x.emit(0, op, number, 0), 1);
                Due.is("op " + op + " with any b", x.emit(0, op, 0, number), 2);
            }
        }
    }

    private static void emitFullThread() {
        for (int thread = 0; thread < 3; thread++) {
            for (int op = 0; op <= 8; op++) {
                InterleaveExplorer x = new InterleaveExplorer();
                for (int count = 1; count <= 5; count++) {
                    Due.is("up to five", x.emit(thread, op, 0, 0), count);
                }
                Due.is("a sixth", x.emit(thread, op, 0, 0), FULL);
                Due.is("and again", x.emit(thread, op, 0, 0), FULL);
                Due.is("another thread has room", x.emit((thread + 1) % 3, op, 0, 0), 1);
                Due.is("the thread has still none", x.emit(thread, op, 0, 0), FULL);
                x.drop((thread + 1) % 3);
                Due.is("not when another is dropped either", x.emit(thread, op, 0, 0), FULL);
                x.drop(thread);
                Due.is("but when it is dropped itself", x.emit(thread, op, 0, 0), 1);
            }
        }
    }

    private static void emitAllFull() {
        for (int thread = 0; thread < 3; thread++) {
            for (int has = 0; has <= 4; has++) {
                int one = (thread + 1) % 3;
                int other = (thread + 2) % 3;
                InterleaveExplorer x = new InterleaveExplorer();
                emitMany(x, thread, has);
                emitMany(x, one, 5);
                emitMany(x, other, 4 - has);
                String what = "thread " + thread + " with " + has + ": ";
                Due.is(what + "the tenth", x.emit(other, Op.ADD, 0, 1), 5 - has);
                Due.is(what + "the eleventh", x.emit(thread, Op.ADD, 0, 1), FULL);
                Due.is(what + "the other has room no more either", x.emit(other, Op.ADD, 0, 1), FULL);
                x.drop(one);
                Due.is(what + "when another is dropped", x.emit(thread, Op.ADD, 0, 1), has + 1);
            }
        }
    }

    private static void emitMany(InterleaveExplorer x, int thread, int count) {
        for (int i = 0; i < count; i++) {
            x.emit(thread, Op.ADD, 0, 1);
        }
    }

    private static void eachProgram(String what, Consumer<InterleaveExplorer> calls) {
        Programs.all().forEach((name, program) -> Twins.stayAlike(what + ", " + name, program, calls));
    }

    private static void emitBadThreadChangesNothing() {
        for (int thread : Ints.wrongThreads()) {
            eachProgram("thread " + thread, x -> Due.is("emit", x.emit(thread, Op.PUT, 5, 0), BAD_THREAD));
        }
        eachProgram("a wrong op too", x -> Due.is("emit", x.emit(3, 9, 5, 0), BAD_THREAD));
    }

    private static void emitBadOpChangesNothing() {
        for (int op : Ints.wrongOps()) {
            for (int thread = 0; thread < 3; thread++) {
                int to = thread;
                eachProgram("op " + op + " to " + to, x -> Due.is("emit", x.emit(to, op, 5, 0), BAD_OP));
            }
        }
    }

    private static void emitFullChangesNothing() {
        for (int first = 0; first <= 5; first++) {
            for (int second = 5 - first; second <= 5; second++) {
                int[] sizes = {first, second, 10 - first - second};
                for (int thread = 0; thread < 3; thread++) {
                    int to = thread;
                    Twins.stayAlike("all full, to " + to, x -> Programs.emitPuts(x, sizes),
                            x -> Due.is("emit", x.emit(to, Op.PUT, 5, 3), FULL));
                }
            }
        }
        for (int thread = 0; thread < 3; thread++) {
            int full = thread;
            Twins.stayAlike("thread " + full + " full", x -> emitMany(x, full, 5),
                    x -> Due.is("emit", x.emit(full, Op.PUT, 5, 3), FULL));
        }
    }

    private static void emitAnswersHowMany() {
        InterleaveExplorer x = new InterleaveExplorer();
        for (int count = 1; count <= 3; count++) {
            for (int thread = 0; thread < 3; thread++) {
                Due.is("how many thread " + thread + " has, not all", x.emit(thread, Op.ADD, 0, 1), count);
            }
        }
        Due.is("the tenth", x.emit(2, Op.ADD, 0, 1), 4);
        x.drop(1);
        Due.is("a dropped thread begins anew", x.emit(1, Op.ADD, 0, 1), 1);
        Due.is("the others go on", x.emit(0, Op.ADD, 0, 1), 4);
    }

    private static void beginSets() {
        for (int variable = 0; variable < 4; variable++) {
            InterleaveExplorer x = new InterleaveExplorer();
            for (int value : Ints.any()) {
                x.begin(variable, value);
                Due.is("least", x.least(variable), value);
                Due.is("greatest", x.greatest(variable), value);
                Due.is("no other variable", x.least((variable + 1) % 4), 0);
            }
            x.begin(variable, 7);
            x.emit(0, Op.PUT, 8, variable);
            x.emit(1, Op.LOAD, 0, variable);
            Due.is("what it begins with, not what it is later", x.leastRegister(1, 0), 7);
            x.begin(variable, 9);
            Due.is("set again", x.leastRegister(1, 0), 8);
            Due.is("and overwritten by the run", x.greatest(variable), 8);
            x.drop(0);
            Due.is("what was set stays", x.least(variable), 9);
        }
    }

    private static void beginBadVariable() {
        for (int variable : Ints.wrongVariables()) {
            for (int value : new int[] {0, 1, MIN, MAX}) {
                Due.is("variable " + variable, new InterleaveExplorer().begin(variable, value), BAD_VARIABLE);
            }
        }
        for (int variable = 0; variable < 4; variable++) {
            Due.is("variable " + variable, new InterleaveExplorer().begin(variable, 1), 0);
        }
    }

    private static void beginChangesNothing() {
        for (int variable : Ints.wrongVariables()) {
            eachProgram("variable " + variable, x -> Due.is("begin", x.begin(variable, 5), BAD_VARIABLE));
        }
    }

    private static void beginAnswersTheOldValue() {
        for (int variable = 0; variable < 4; variable++) {
            InterleaveExplorer x = new InterleaveExplorer();
            int old = 0;
            for (int value : new int[] {5, 5, 0, BAD_VARIABLE, 6, NONE, MIN, MAX, -1, 1}) {
                Due.is("variable " + variable, x.begin(variable, value), old);
                old = value;
            }
            x.emit(0, Op.PUT, 3, variable);
            Due.is("the run's end", x.least(variable), 3);
            Due.is("is not the old value", x.begin(variable, 2), 1);
            for (int other = 0; other < 4; other++) {
                Due.is("the old value of " + other, x.begin(other, 4), other == variable ? 2 : 0);
            }
        }
    }

    private static void dropDrops() {
        for (int thread = 0; thread < 3; thread++) {
            InterleaveExplorer x = new InterleaveExplorer();
            Programs.emitPuts(x, 4, 3, 3);
            x.begin(3, 6);
            x.drop(thread);
            for (int other = 0; other < 3; other++) {
                int size = other == 0 ? 4 : 3;
                Due.is("thread " + other, x.greatest(other), other == thread ? 0 : size);
            }
            Due.is("what the variables begin with stays", x.least(3), 6);
            x.emit(thread, Op.ADD, 0, 1);
            Due.is("the dropped ones do not come back", x.greatest(thread), 0);
            for (int other = 0; other < 3; other++) {
                int size = other == 0 ? 4 : 3;
                Due.is("how many " + other + " has", x.drop(other), other == thread ? 1 : size);
            }
        }
    }

    private static void dropBadThread() {
        for (int thread : Ints.wrongThreads()) {
            Due.is("thread " + thread + ", nothing there", new InterleaveExplorer().drop(thread), BAD_THREAD);
            Due.is("thread " + thread, Programs.lockedUpdate().drop(thread), BAD_THREAD);
        }
    }

    private static void dropChangesNothing() {
        for (int thread : Ints.wrongThreads()) {
            eachProgram("thread " + thread, x -> Due.is("drop", x.drop(thread), BAD_THREAD));
        }
    }

    private static void dropAnswersHowMany() {
        for (int thread = 0; thread < 3; thread++) {
            InterleaveExplorer x = new InterleaveExplorer();
            for (int count = 0; count <= 5; count++) {
                emitMany(x, thread, count);
                Due.is("thread " + thread, x.drop(thread), count);
                Due.is("and then none", x.drop(thread), 0);
            }
            emitMany(x, thread, 7);
            Due.is("refused ones do not count", x.drop(thread), 5);
        }
    }

    private static void canComplete() {
        Due.yes("every run", Programs.lostUpdate().canComplete());
        Due.yes("some run, others stuck", Programs.crossedLocks().canComplete());
        Due.yes("some run, others failing", oneOfTwoFails(0).canComplete());
        Due.no("no run, all stuck", Programs.neverComplete().canComplete());
        Due.no("no run, all failing", alwaysFails(0).canComplete());
        Due.yes("the run of no instructions", new InterleaveExplorer().canComplete());
    }

    private static void canStick() {
        Due.no("no run, all complete", Programs.lostUpdate().canStick());
        Due.yes("some run, others complete", Programs.crossedLocks().canStick());
        Due.yes("every run", Programs.neverComplete().canStick());
        Due.no("no run, all failing", alwaysFails(1).canStick());
        Due.no("no run, some failing", oneOfTwoFails(1).canStick());
        Due.no("the run of no instructions", new InterleaveExplorer().canStick());
        InterleaveExplorer x = oneOfTwoFails(0);
        x.emit(2, Op.AWAIT, 3, 3);
        Due.yes("some run, others failing", x.canStick());
        x.drop(2);
        Due.no("no more when the wait is dropped", x.canStick());
    }

    /** Fails if the thread reads ahead of what the next one writes. */
    private static InterleaveExplorer oneOfTwoFails(int thread) {
        InterleaveExplorer x = new InterleaveExplorer();
        x.emit(thread, Op.LOAD, 0, 0);
        x.emit(thread, Op.CHECK, 0, 1);
        x.emit((thread + 1) % 3, Op.PUT, 1, 0);
        return x;
    }

    private static InterleaveExplorer alwaysFails(int thread) {
        InterleaveExplorer x = new InterleaveExplorer();
        x.emit(thread, Op.CHECK, 0, 1);
        return x;
    }

    private static void canFail() {
        for (int thread = 0; thread < 3; thread++) {
            InterleaveExplorer x = oneOfTwoFails(thread);
            InterleaveExplorer y = alwaysFails(thread);
            for (int asked = 0; asked < 3; asked++) {
                Due.is("some run of " + thread + ", asked " + asked, x.canFail(asked), asked == thread);
                Due.is("every run of " + thread + ", asked " + asked, y.canFail(asked), asked == thread);
            }
            y.emit((thread + 1) % 3, Op.CHECK, 1, 1);
            for (int asked = 0; asked < 3; asked++) {
                Due.is("each of two, asked " + asked, y.canFail(asked), asked != (thread + 2) % 3);
            }
            y.drop(thread);
            Due.no("no more when it is dropped", y.canFail(thread));
            Due.yes("the other still", y.canFail((thread + 1) % 3));
            x.begin(0, 1);
            Due.no("no more when it holds in every run", x.canFail(thread));
        }
        Due.no("stuck is not failing", Programs.neverComplete().canFail(1));
    }

    private static void canFailWrongThread() {
        for (int thread : Ints.wrongThreads()) {
            InterleaveExplorer x = new InterleaveExplorer();
            Due.no("no CHECK at all, thread " + thread, x.canFail(thread));
            for (int failing = 0; failing < 3; failing++) {
                x.emit(failing, Op.CHECK, 0, 1);
            }
            Due.no("all three fail, thread " + thread, x.canFail(thread));
            Due.yes("and the right ones after it", x.canFail(2));
        }
    }

    private static void canEnd() {
        for (int variable = 0; variable < 4; variable++) {
            for (int value : Ints.any()) {
                InterleaveExplorer x = new InterleaveExplorer();
                x.begin(variable, 77);
                x.emit(0, Op.PUT, value, variable);
                x.emit(2, Op.PUT, 99, variable);
                Due.yes("some run", x.canEnd(variable, value));
                Due.yes("some other run", x.canEnd(variable, 99));
                Due.no("the beginning is no end", x.canEnd(variable, 77));
                Due.no("another variable", x.canEnd((variable + 1) % 4, 99));
                for (int near : Ints.near(value)) {
                    Due.no("not " + near + " for " + value, x.canEnd(variable, near));
                }
            }
        }
    }

    private static void canEndOfCompleteRuns() {
        InterleaveExplorer x = new InterleaveExplorer();
        x.emit(0, Op.PUT, 5, 1);
        Due.yes("complete", x.canEnd(1, 5));
        x.emit(0, Op.AWAIT, 0, 1);
        Due.no("stuck", x.canEnd(1, 5));
        Due.no("stuck, the beginning", x.canEnd(1, 0));
        x.drop(0);
        x.emit(0, Op.PUT, 5, 1);
        x.emit(0, Op.CHECK, 0, 1);
        Due.no("failing", x.canEnd(1, 5));
        InterleaveExplorer y = oneOfTwoFails(0);
        y.emit(0, Op.STORE, 0, 2);
        Due.yes("what the complete ones end with", y.canEnd(2, 1));
        Due.no("what the failing ones had", y.canEnd(2, 0));
    }

    private static void canEndBoth() {
        for (int v = 0; v < 4; v++) {
            for (int w = 0; w < 4; w++) {
                if (v == w) {
                    continue;
                }
                InterleaveExplorer x = new InterleaveExplorer();
                x.emit(0, Op.PUT, 1, v);
                x.emit(0, Op.PUT, MIN, w);
                x.emit(1, Op.PUT, 2, v);
                x.emit(1, Op.PUT, MAX, w);
                for (int value = 0; value <= 3; value++) {
                    boolean due = value == 1 || value == 2;
                    Due.is("x " + value + ", y MIN", x.canEndBoth(v, value, w, MIN), due);
                    Due.is("x " + value + ", y MAX", x.canEndBoth(v, value, w, MAX), due);
                    Due.is("y " + value + ", x MAX", x.canEndBoth(w, MAX, v, value), due);
                    Due.no("x " + value + ", y 0", x.canEndBoth(v, value, w, 0));
                    Due.no("x " + value + ", y the wrong way round", x.canEndBoth(w, value, v, MIN));
                }
            }
        }
    }

    private static void canEndBothInOneRun() {
        for (int v = 0; v < 4; v++) {
            int w = (v + 1) % 4;
            InterleaveExplorer x = new InterleaveExplorer();
            x.emit(0, Op.LOCK, 0, 0);
            x.emit(0, Op.PUT, 1, v);
            x.emit(0, Op.PUT, 1, w);
            x.emit(0, Op.UNLOCK, 0, 0);
            x.emit(1, Op.LOCK, 0, 0);
            x.emit(1, Op.PUT, 2, v);
            x.emit(1, Op.PUT, 2, w);
            x.emit(1, Op.UNLOCK, 0, 0);
            Due.yes("1 alone", x.canEnd(v, 1));
            Due.yes("2 alone", x.canEnd(w, 2));
            Due.yes("both 1", x.canEndBoth(v, 1, w, 1));
            Due.yes("both 2", x.canEndBoth(v, 2, w, 2));
            Due.no("1 and 2, each in another run", x.canEndBoth(v, 1, w, 2));
            Due.no("2 and 1, each in another run", x.canEndBoth(v, 2, w, 1));
        }
    }

    private static void canEndBothOfOneVariable() {
        for (int variable = 0; variable < 4; variable++) {
            InterleaveExplorer x = new InterleaveExplorer();
            x.emit(0, Op.PUT, 1, variable);
            x.emit(1, Op.PUT, 2, variable);
            Due.yes("one value, 1", x.canEndBoth(variable, 1, variable, 1));
            Due.yes("one value, 2", x.canEndBoth(variable, 2, variable, 2));
            Due.no("one value that it never has", x.canEndBoth(variable, 3, variable, 3));
            Due.no("two values, each possible alone", x.canEndBoth(variable, 1, variable, 2));
            Due.no("two values, the other way", x.canEndBoth(variable, 2, variable, 1));
        }
    }

    private static void canEndBothOfCompleteRuns() {
        InterleaveExplorer x = new InterleaveExplorer();
        x.emit(2, Op.PUT, 5, 1);
        Due.yes("complete", x.canEndBoth(1, 5, 0, 0));
        x.emit(2, Op.AWAIT, 0, 1);
        Due.no("stuck", x.canEndBoth(1, 5, 0, 0));
        x.drop(2);
        x.emit(2, Op.PUT, 5, 1);
        x.emit(2, Op.CHECK, 0, 1);
        Due.no("failing", x.canEndBoth(1, 5, 0, 0));
    }

    /** Three threads, so that neither the first nor the last run has to be the extreme one. */
    private static void extremesAre(int variable, int[] values, int least, int greatest) {
        InterleaveExplorer x = new InterleaveExplorer();
        for (int thread = 0; thread < 3; thread++) {
            x.emit(thread, Op.PUT, values[thread], variable);
        }
        Due.is("least", x.least(variable), least);
        Due.is("greatest", x.greatest(variable), greatest);
        Due.is("least of another variable", x.least(3 - variable), 0);
        Due.is("greatest of another variable", x.greatest(3 - variable), 0);
    }

    private static void extremesOfTwoRuns(int variable, int first, int second) {
        InterleaveExplorer x = new InterleaveExplorer();
        x.emit(0, Op.PUT, first, variable);
        x.emit(1, Op.PUT, second, variable);
        Due.is("least of two", x.least(variable), Math.min(first, second));
        Due.is("greatest of two", x.greatest(variable), Math.max(first, second));
    }

    private static void leastAndGreatest() {
        for (int variable = 0; variable < 4; variable++) {
            extremesOfTwoRuns(variable, 1, 2);
            extremesOfTwoRuns(variable, 2, 1);
            extremesOfTwoRuns(variable, MIN, MAX);
            extremesOfTwoRuns(variable, MAX, MIN);
            extremesAre(variable, new int[] {1, 2, 3}, 1, 3);
            extremesAre(variable, new int[] {2, 3, 1}, 1, 3);
            extremesAre(variable, new int[] {3, 1, 2}, 1, 3);
            extremesAre(variable, new int[] {3, 2, 1}, 1, 3);
            extremesAre(variable, new int[] {1, 3, 2}, 1, 3);
            extremesAre(variable, new int[] {2, 1, 3}, 1, 3);
            extremesAre(variable, new int[] {-1, -2, -3}, -3, -1);
            extremesAre(variable, new int[] {MIN, 0, MAX}, MIN, MAX);
            extremesAre(variable, new int[] {MAX, MIN, -1}, MIN, MAX);
            extremesAre(variable, new int[] {MIN, MIN, MIN}, MIN, MIN);
            extremesAre(variable, new int[] {MAX, MAX, MAX}, MAX, MAX);
            extremesAre(variable, new int[] {NONE, MIN, NONE + 1}, MIN, NONE + 1);
            extremesAre(variable, new int[] {NONE, NONE, NONE}, NONE, NONE);
            extremesAre(variable, new int[] {BAD_VARIABLE, 5, BAD_VARIABLE}, BAD_VARIABLE, 5);
        }
    }

    private static void leastAndGreatestOfCompleteRuns() {
        for (int variable = 0; variable < 4; variable++) {
            InterleaveExplorer x = new InterleaveExplorer();
            x.begin(variable, 50);
            x.emit(0, Op.PUT, 90, variable);
            x.emit(0, Op.PUT, 10, variable);
            x.emit(0, Op.PUT, 40, variable);
            x.emit(1, Op.PUT, 60, variable);
            Due.is("the end alone, least", x.least(variable), 40);
            Due.is("the end alone, greatest", x.greatest(variable), 60);
            x.emit(2, Op.LOAD, 0, variable);
            x.emit(2, Op.CHECK, 0, 40);
            Due.is("the end alone, with runs that fail, least", x.least(variable), 40);
            x.drop(2);
            x.emit(2, Op.AWAIT, variable, 90);
            x.emit(2, Op.PUT, 41, variable);
            x.emit(2, Op.AWAIT, variable, 10);
            Due.is("not those of stuck runs, least", x.least(variable), 40);
            x.emit(2, Op.PUT, 42, variable);
            Due.is("not those of stuck runs, greatest", x.greatest(variable), 60);
            x.drop(1);
            Due.is("with fewer runs, greatest", x.greatest(variable), 42);
        }
        for (int thread = 0; thread < 3; thread++) {
            InterleaveExplorer y = oneOfTwoFails(thread);
            y.emit(thread, Op.PUT, 7, 1);
            Due.is("not those of failing runs, least", y.least(1), 7);
            y.begin(1, 8);
            Due.is("not those of failing runs, greatest", y.greatest(1), 7);
        }
    }

    private static void leastBadVariable() {
        for (int variable : Ints.wrongVariables()) {
            Due.is("new object, " + variable, new InterleaveExplorer().least(variable), BAD_VARIABLE);
            Due.is("complete runs, " + variable, Programs.lostUpdate().least(variable), BAD_VARIABLE);
            Due.is("no complete run, " + variable, alwaysFails(0).least(variable), BAD_VARIABLE);
        }
    }

    private static void greatestBadVariable() {
        for (int variable : Ints.wrongVariables()) {
            Due.is("new object, " + variable, new InterleaveExplorer().greatest(variable), BAD_VARIABLE);
            Due.is("complete runs, " + variable, Programs.lostUpdate().greatest(variable), BAD_VARIABLE);
            Due.is("no complete run, " + variable, alwaysFails(0).greatest(variable), BAD_VARIABLE);
        }
    }

    private static void leastNone() {
        for (int variable = 0; variable < 4; variable++) {
            InterleaveExplorer x = Programs.neverComplete();
            x.begin(variable, 9);
            Due.is("all stuck", x.least(variable), NONE);
            x.drop(1);
            Due.is("no more", x.least(variable), 9);
            Due.is("all failing", alwaysFails(2).least(variable), NONE);
        }
    }

    private static void greatestNone() {
        for (int variable = 0; variable < 4; variable++) {
            InterleaveExplorer x = Programs.neverComplete();
            x.begin(variable, MIN);
            Due.is("all stuck", x.greatest(variable), NONE);
            x.drop(1);
            Due.is("no more", x.greatest(variable), MIN);
            Due.is("all failing", alwaysFails(2).greatest(variable), NONE);
        }
    }

    private static void leastRegister() {
        for (int thread = 0; thread < 3; thread++) {
            for (int r = 0; r < 2; r++) {
                InterleaveExplorer x = new InterleaveExplorer();
                x.begin(0, 5);
                x.emit(thread, Op.LOAD, r, 0);
                x.emit((thread + 1) % 3, Op.PUT, 3, 0);
                x.emit((thread + 1) % 3, Op.PUT, 4, 0);
                Due.is("the least, in neither the first nor the last run", x.leastRegister(thread, r), 3);
                Due.is("the other register", x.leastRegister(thread, 1 - r), 0);
                x.begin(0, MIN);
                Due.is("the least int", x.leastRegister(thread, r), MIN);
                x.emit(thread, Op.CHECK, r, 4);
                Due.is("not those of failing runs", x.leastRegister(thread, r), 4);
                x.emit(thread, Op.ADD, r, MAX);
                Due.is("at the end, wrapped", x.leastRegister(thread, r), MIN + 3);
                x.emit(thread, Op.LOAD, r, 1);
                Due.is("at the end alone", x.leastRegister(thread, r), 0);
                Due.is("registers of others", x.leastRegister((thread + 2) % 3, r), 0);
            }
        }
        InterleaveExplorer y = new InterleaveExplorer();
        y.emit(0, Op.LOAD, 0, 0);
        y.emit(0, Op.AWAIT, 0, 2);
        y.emit(1, Op.AWAIT, 0, 0);
        y.emit(1, Op.PUT, 1, 0);
        y.emit(1, Op.PUT, 2, 0);
        y.emit(2, Op.AWAIT, 0, 1);
        y.emit(2, Op.LOAD, 1, 0);
        Due.is("not those of stuck runs", y.leastRegister(2, 1), 1);
    }

    private static void leastRegisterOfAnyNumber() {
        for (int thread = 0; thread < 3; thread++) {
            InterleaveExplorer x = new InterleaveExplorer();
            x.emit(thread, Op.ADD, 0, 11);
            x.emit(thread, Op.ADD, 1, 22);
            x.emit((thread + 1) % 3, Op.ADD, 0, 33);
            x.emit((thread + 1) % 3, Op.ADD, 1, 44);
            for (int r : Ints.any()) {
                Due.is("r " + r, x.leastRegister(thread, r), Ints.ofTwo(r) == 0 ? 11 : 22);
            }
        }
    }

    private static void leastRegisterBadThread() {
        for (int thread : Ints.wrongThreads()) {
            for (int r : new int[] {0, 1, -1, 2, MIN, MAX}) {
                Due.is("new object, " + thread, new InterleaveExplorer().leastRegister(thread, r), BAD_THREAD);
                Due.is("complete runs, " + thread, Programs.lostUpdate().leastRegister(thread, r), BAD_THREAD);
                Due.is("no complete run, " + thread, alwaysFails(0).leastRegister(thread, r), BAD_THREAD);
            }
        }
    }

    private static void leastRegisterNone() {
        for (int thread = 0; thread < 3; thread++) {
            for (int r : new int[] {0, 1, -1, MIN, MAX}) {
                InterleaveExplorer x = Programs.neverComplete();
                Due.is("all stuck", x.leastRegister(thread, r), NONE);
                x.drop(1);
                Due.is("no more", x.leastRegister(thread, r), 0);
                Due.is("all failing", alwaysFails(2).leastRegister(thread, r), NONE);
            }
        }
    }

    private static void settledEveryRunComplete() {
        Due.yes("every run", Programs.lockedUpdate().settled());
        Due.no("every run is stuck", Programs.neverComplete().settled());
        InterleaveExplorer x = Programs.crossedLocks();
        Due.yes("some run is complete", x.canComplete());
        Due.no("some run is stuck, though the complete ones end alike", x.settled());
        for (int thread = 0; thread < 3; thread++) {
            Due.no("every run fails", alwaysFails(thread).settled());
            InterleaveExplorer y = oneOfTwoFails(thread);
            Due.yes("some run is complete", y.canComplete());
            Due.no("some run fails, though the complete ones end alike", y.settled());
            y.begin(0, 1);
            Due.yes("no run fails any more", y.settled());
            y.emit((thread + 2) % 3, Op.AWAIT, 3, 1);
            Due.no("every run is stuck at its end", y.settled());
            y.drop((thread + 2) % 3);
            Due.yes("none is any more", y.settled());
        }
    }

    private static void settledSameValues() {
        for (int variable = 0; variable < 4; variable++) {
            InterleaveExplorer x = new InterleaveExplorer();
            x.emit(0, Op.PUT, 1, variable);
            x.emit(1, Op.PUT, 2, variable);
            Due.no("variable " + variable + " can be two values", x.settled());
            x.emit(2, Op.PUT, 5, (variable + 1) % 4);
            Due.no("and another is always the same", x.settled());
            x.drop(1);
            Due.yes("each is always the same", x.settled());
            x.emit(1, Op.PUT, 1, variable);
            Due.yes("two threads write the same value", x.settled());
            x.drop(1);
            x.emit(1, Op.PUT, 1 + (1 << 16), variable);
            Due.no("values far from one another", x.settled());
            x.drop(0);
            x.drop(1);
            x.emit(0, Op.PUT, MIN, variable);
            x.emit(1, Op.PUT, MAX, variable);
            Due.no("the least and the greatest int", x.settled());
        }
        Due.no("an update can be lost", Programs.lostUpdate().settled());
    }

    private static void settledOfVariablesAlone() {
        InterleaveExplorer x = new InterleaveExplorer();
        x.emit(0, Op.PUT, 1, 0);
        x.emit(1, Op.LOAD, 0, 0);
        x.emit(2, Op.LOAD, 1, 0);
        Due.is("a register can differ", x.leastRegister(1, 0), 0);
        Due.yes("registers are of no account", x.settled());
        x.emit(1, Op.LOCK, 0, 0);
        Due.yes("nor is a lock that is held", x.settled());
        InterleaveExplorer y = new InterleaveExplorer();
        y.emit(0, Op.PUT, 1, 0);
        y.emit(0, Op.PUT, 2, 0);
        y.emit(1, Op.AWAIT, 3, 0);
        y.emit(1, Op.AWAIT, 3, 0);
        Due.yes("nor are values on the way", y.settled());
    }

    private static void settledWithoutInstructions() {
        InterleaveExplorer x = new InterleaveExplorer();
        Due.yes("a new object", x.settled());
        x.begin(0, NONE);
        x.begin(1, MIN);
        x.begin(2, MAX);
        Due.yes("whatever the variables begin with", x.settled());
        x.emit(0, Op.PUT, 1, 3);
        x.emit(1, Op.PUT, 2, 3);
        Due.no("two writers", x.settled());
        x.drop(0);
        x.drop(1);
        Due.yes("all dropped", x.settled());
    }

    private static void badThreadBeforeBadOp() {
        for (int thread : Ints.wrongThreads()) {
            for (int op : Ints.wrongOps()) {
                Due.is(thread + ", " + op, new InterleaveExplorer().emit(thread, op, 0, 0), BAD_THREAD);
                Due.is(thread + ", " + op + ", full", Programs.lockedUpdate().emit(thread, op, 0, 0), BAD_THREAD);
            }
        }
    }

    private static void badThreadBeforeFull() {
        for (int thread : Ints.wrongThreads()) {
            InterleaveExplorer x = Programs.lockedUpdate();
            Due.is("all full, " + thread, x.emit(thread, Op.ADD, 0, 0), BAD_THREAD);
            x.drop(1);
            Due.is("one thread full, " + thread, x.emit(thread, Op.ADD, 0, 0), BAD_THREAD);
        }
    }

    private static void badOpBeforeFull() {
        for (int op : Ints.wrongOps()) {
            for (int thread = 0; thread < 3; thread++) {
                InterleaveExplorer x = Programs.lockedUpdate();
                Due.is("all full, " + op, x.emit(thread, op, 0, 0), BAD_OP);
                InterleaveExplorer y = new InterleaveExplorer();
                emitMany(y, thread, 5);
                Due.is("the thread full, " + op, y.emit(thread, op, 0, 0), BAD_OP);
                Due.is("a right op then", y.emit(thread, Op.ADD, 0, 0), FULL);
            }
        }
    }

    private static void leastBadVariableBeforeNone() {
        for (int variable : Ints.wrongVariables()) {
            InterleaveExplorer x = Programs.neverComplete();
            Due.is("all stuck, " + variable, x.least(variable), BAD_VARIABLE);
            Due.is("a right variable then", x.least(0), NONE);
            Due.is("and again, " + variable, x.least(variable), BAD_VARIABLE);
        }
    }

    private static void greatestBadVariableBeforeNone() {
        for (int variable : Ints.wrongVariables()) {
            InterleaveExplorer x = Programs.neverComplete();
            Due.is("all stuck, " + variable, x.greatest(variable), BAD_VARIABLE);
            Due.is("a right variable then", x.greatest(3), NONE);
            Due.is("and again, " + variable, x.greatest(variable), BAD_VARIABLE);
        }
    }

    private static void badThreadBeforeNone() {
        for (int thread : Ints.wrongThreads()) {
            InterleaveExplorer x = Programs.neverComplete();
            Due.is("all stuck, " + thread, x.leastRegister(thread, 0), BAD_THREAD);
            Due.is("a right thread then", x.leastRegister(2, 0), NONE);
            Due.is("and again, " + thread, x.leastRegister(thread, 1), BAD_THREAD);
        }
    }
}
