import java.util.function.Consumer;

/** The sections "What it is" and "Terms", apart from the table of instructions. */
public final class TermsBoundsTest {
    private static final int MIN = Ints.MIN;
    private static final int MAX = Ints.MAX;
    private static final int NONE = -2147483647;
    private static final int BAD_THREAD = -1;
    private static final int FULL = -3;
    private static final int BAD_VARIABLE = -4;
    private static final int MOST_CALLS = 512;

    public static void main(String[] args) {
        Due.sentence("up to three THREADS (0 to 2)", TermsBoundsTest::threeThreads);
        Due.sentence("at most 512 calls: changes and questions", TermsBoundsTest::callsOfBothKinds);
        Due.sentence("at most 512 calls: questions alone", TermsBoundsTest::callsThatAsk);
        Due.sentence("at most 512 calls: emit and drop", TermsBoundsTest::callsThatChange);
        Due.sentence("at most 512 calls: refused", TermsBoundsTest::callsThatAreRefused);
        Due.sentence("Each thread has at most five INSTRUCTIONS", TermsBoundsTest::fiveOfAThread);
        Due.sentence("all threads together at most ten", TermsBoundsTest::tenOfAll);
        Due.sentence("carried out one after the other", TermsBoundsTest::oneAfterTheOther);
        Due.sentence("a thread has two registers (0 and 1)", TermsBoundsTest::twoRegisters);
        Due.sentence("all threads share four variables (0 to 3)", TermsBoundsTest::fourVariables);
        Due.sentence("and two locks (0 and 1)", TermsBoundsTest::twoLocks);
        Due.sentence("Registers are 0 at the beginning of a RUN", TermsBoundsTest::registersBeginWithZero);
        Due.sentence("locks free at the beginning of a RUN", TermsBoundsTest::locksBeginFree);
        Due.sentence("variables begin with values that can be set", TermsBoundsTest::variablesBeginAsSet);
        Due.sentence("(0 unless set)", TermsBoundsTest::zeroUnlessSet);
        Due.sentence("and has finished when it was its last", TermsBoundsTest::finishedWithTheLast);
        Due.sentence("COMPLETE when all threads have finished", TermsBoundsTest::completeWhenAllHaveFinished);
        Due.sentence("threads without instructions have finished at once", TermsBoundsTest::withoutInstructions);
        Due.sentence("STUCK if some thread has not finished", TermsBoundsTest::stuckIfSomeHasNotFinished);
        Due.sentence("and no next instruction can be carried out", TermsBoundsTest::stuckIfNoneCanGoOn);
        Due.sentence("it ends at once when it FAILS", TermsBoundsTest::endsWhenItFails);
        Due.sentence("a run that FAILS, beside others", TermsBoundsTest::failsBesideOthers);
        Due.sentence("Every choice of threads gives a run: two", TermsBoundsTest::everyChoiceOfTwo);
        Due.sentence("Every choice of threads gives a run: three", TermsBoundsTest::everyChoiceOfThree);
        Due.sentence("Every choice of threads gives a run: the most", TermsBoundsTest::everyChoiceOfTheMost);
        Due.sentence("Every choice of threads gives a run: each in its turn", TermsBoundsTest::oneRunOfAll);
        Due.sentence("NONE: if no run is complete", TermsBoundsTest::noneIfNoRunIsComplete);
        Due.sentence("NONE: only if no run is complete", TermsBoundsTest::noneOnlyIfNoRunIsComplete);
        Due.sentence("The calls below change nothing that any call answers", TermsBoundsTest::questionsChangeNothing);
        Due.sentence("variable not in 0 to 3: false", TermsBoundsTest::wrongVariableFalse);
        Due.sentence("or BAD_VARIABLE", TermsBoundsTest::wrongVariableNumber);
        Due.end();
    }

    private static void threeThreads() {
        InterleaveExplorer x = new InterleaveExplorer();
        Due.is("thread -1", x.emit(-1, Op.PUT, 9, 0), BAD_THREAD);
        Due.is("thread 0", x.emit(0, Op.PUT, 10, 0), 1);
        Due.is("thread 1", x.emit(1, Op.PUT, 11, 0), 1);
        Due.is("thread 2", x.emit(2, Op.PUT, 12, 0), 1);
        Due.is("thread 3", x.emit(3, Op.PUT, 13, 0), BAD_THREAD);
        for (int value = 9; value <= 13; value++) {
            Due.is("each can be the last: " + value, x.canEnd(0, value), value >= 10 && value <= 12);
        }
    }

    /** Every question comes after a change and has the most runs to go through. */
    private static void callsOfBothKinds() {
        InterleaveExplorer x = new InterleaveExplorer();
        Programs.emitPuts(x, 4, 3, 3);
        int calls = 10;
        for (int value = 1; calls < MOST_CALLS; value++) {
            Due.is("begin", x.begin(3, value), value - 1);
            Due.is("least", x.least(3), value);
            calls += 2;
        }
        Due.is("calls", calls, MOST_CALLS);
    }

    private static void callsThatAsk() {
        InterleaveExplorer x = Programs.lostUpdate();
        int calls = 6;
        for (; calls < MOST_CALLS; calls += 2) {
            Due.is("least", x.least(0), 1);
            Due.is("greatest", x.greatest(0), 2);
        }
        Due.is("calls", calls, MOST_CALLS);
    }

    private static void callsThatChange() {
        InterleaveExplorer x = new InterleaveExplorer();
        int calls = 0;
        for (int round = 0; round < 64; round++) {
            int thread = round % 3;
            for (int count = 1; count <= 5; count++) {
                Due.is("emit", x.emit(thread, Op.PUT, 10 * round + count, 1), count);
            }
            Due.is("a sixth", x.emit(thread, Op.PUT, 1, 1), FULL);
            if (round < 63) {
                Due.is("drop", x.drop(thread), 5);
            } else {
                Due.is("the last that is left", x.greatest(1), 635);
            }
            calls += 7;
        }
        Due.is("calls", calls, 448);
        for (; calls < MOST_CALLS; calls++) {
            Due.is("least", x.least(1), 635);
        }
    }

    private static void callsThatAreRefused() {
        InterleaveExplorer x = Programs.lockedUpdate();
        for (int calls = 10; calls < MOST_CALLS - 2; calls += 5) {
            Due.is("emit", x.emit(calls % 3, Op.ADD, 0, 1), FULL);
            Due.is("emit", x.emit(0, 9, 0, 1), -2);
            Due.is("emit", x.emit(3, Op.ADD, 0, 1), BAD_THREAD);
            Due.is("begin", x.begin(4, 1), BAD_VARIABLE);
            Due.is("drop", x.drop(-1), BAD_THREAD);
        }
        Due.is("the 511th call", x.least(0), 2);
        Due.is("the 512th call", x.drop(0), 5);
    }

    private static void fiveOfAThread() {
        for (int thread = 0; thread < 3; thread++) {
            InterleaveExplorer x = new InterleaveExplorer();
            for (int count = 1; count <= 5; count++) {
                Due.is("thread " + thread, x.emit(thread, Op.PUT, count, thread), count);
                Due.is("the newest is carried out too", x.least(thread), count);
            }
            Due.is("a sixth", x.emit(thread, Op.PUT, 6, thread), FULL);
            Due.is("a seventh", x.emit(thread, Op.PUT, 7, thread), FULL);
            Due.is("they are not carried out", x.greatest(thread), 5);
            for (int other = 0; other < 3; other++) {
                if (other != thread) {
                    Due.is("another thread has room", x.emit(other, Op.PUT, 8, 3), 1);
                }
            }
            Due.is("the thread's own end stays", x.greatest(thread), 5);
            Due.is("the thread has five", x.drop(thread), 5);
            Due.is("and then room again", x.emit(thread, Op.PUT, 9, thread), 1);
        }
    }

    private static void tenOfAll() {
        for (int first = 0; first <= 5; first++) {
            for (int second = 5 - first; second <= 5; second++) {
                tenSplit(first, second, 10 - first - second);
            }
        }
    }

    private static void tenSplit(int... sizes) {
        String split = sizes[0] + ", " + sizes[1] + ", " + sizes[2] + ": ";
        InterleaveExplorer x = new InterleaveExplorer();
        for (int thread = 0; thread < 3; thread++) {
            for (int count = 1; count <= sizes[thread]; count++) {
                Due.is(split + "emit", x.emit(thread, Op.PUT, count, thread), count);
            }
        }
        for (int thread = 0; thread < 3; thread++) {
            Due.is(split + "an eleventh, to " + thread, x.emit(thread, Op.PUT, 6, thread), FULL);
        }
        for (int thread = 0; thread < 3; thread++) {
            Due.is(split + "all are carried out, least", x.least(thread), sizes[thread]);
            Due.is(split + "none more is, greatest", x.greatest(thread), sizes[thread]);
        }
        for (int thread = 0; thread < 3; thread++) {
            Due.is(split + "drop", x.drop(thread), sizes[thread]);
            for (int count = 1; count <= sizes[thread]; count++) {
                Due.is(split + "there is room again", x.emit(thread, Op.PUT, 10 + count, thread), count);
            }
            Due.is(split + "for no more than before", x.emit(thread, Op.PUT, 6, thread), FULL);
            Due.is(split + "the new are carried out", x.least(thread), sizes[thread] == 0 ? 0 : 10 + sizes[thread]);
        }
    }

    private static void oneAfterTheOther() {
        for (int thread = 0; thread < 3; thread++) {
            InterleaveExplorer x = new InterleaveExplorer();
            x.emit(thread, Op.PUT, 4, 2);
            x.emit(thread, Op.LOAD, 0, 2);
            x.emit(thread, Op.PUT, 5, 2);
            x.emit(thread, Op.LOAD, 1, 2);
            x.emit(thread, Op.PUT, 6, 2);
            Due.is("after the first", x.leastRegister(thread, 0), 4);
            Due.is("after the third", x.leastRegister(thread, 1), 5);
            Due.is("after the fifth", x.least(2), 6);
            Due.yes("in one order alone", x.settled());
        }
    }

    private static void twoRegisters() {
        InterleaveExplorer x = new InterleaveExplorer();
        for (int thread = 0; thread < 3; thread++) {
            x.emit(thread, Op.ADD, 0, 10 + thread);
            x.emit(thread, Op.ADD, 1, 20 + thread);
        }
        for (int thread = 0; thread < 3; thread++) {
            Due.is("register 0 of " + thread, x.leastRegister(thread, 0), 10 + thread);
            Due.is("register 1 of " + thread, x.leastRegister(thread, 1), 20 + thread);
        }
    }

    private static void fourVariables() {
        for (int variable = 0; variable < 4; variable++) {
            for (int writer = 0; writer < 3; writer++) {
                int reader = (writer + 1) % 3;
                int checker = (writer + 2) % 3;
                InterleaveExplorer x = new InterleaveExplorer();
                x.emit(writer, Op.PUT, 5, variable);
                x.emit(reader, Op.AWAIT, variable, 5);
                x.emit(reader, Op.LOAD, 0, variable);
                x.emit(checker, Op.AWAIT, variable, 5);
                x.emit(checker, Op.LOAD, 1, variable);
                Due.is("another thread reads it", x.leastRegister(reader, 0), 5);
                Due.is("and a third", x.leastRegister(checker, 1), 5);
                for (int other = 0; other < 4; other++) {
                    Due.is("variable " + other + " at the end", x.greatest(other), other == variable ? 5 : 0);
                }
            }
        }
    }

    private static void twoLocks() {
        InterleaveExplorer x = new InterleaveExplorer();
        x.emit(0, Op.LOCK, 0, 0);
        x.emit(1, Op.LOCK, 1, 0);
        Due.yes("two locks for two threads", x.canComplete());
        Due.no("two locks for two threads, canStick", x.canStick());
        x.emit(2, Op.LOCK, 2, 0);
        Due.no("none for a third", x.canComplete());
        Due.yes("none for a third, canStick", x.canStick());
        x.drop(2);
        x.emit(2, Op.LOCK, 3, 0);
        Due.no("whichever it asks for", x.canComplete());
    }

    private static void registersBeginWithZero() {
        for (int thread = 0; thread < 3; thread++) {
            InterleaveExplorer x = new InterleaveExplorer();
            x.begin(0, 5);
            x.emit(thread, Op.CHECK, 0, 0);
            x.emit(thread, Op.CHECK, 1, 0);
            x.emit(thread, Op.ADD, 0, 7);
            x.emit(thread, Op.ADD, 1, 8);
            x.emit((thread + 1) % 3, Op.ADD, 0, 9);
            Due.no("in every run", x.canFail(thread));
            Due.is("so that a sum is the same in every run", x.leastRegister(thread, 0), 7);
            x.drop(thread);
            Due.is("again when it was changed before, 0", x.leastRegister(thread, 0), 0);
            Due.is("again when it was changed before, 1", x.leastRegister(thread, 1), 0);
            x.emit(thread, Op.STORE, 1, 0);
            Due.is("whatever the variables begin with", x.greatest(0), 0);
        }
    }

    private static void locksBeginFree() {
        for (int lock = 0; lock < 2; lock++) {
            InterleaveExplorer x = new InterleaveExplorer();
            x.emit(0, Op.LOCK, lock, 0);
            x.emit(1, Op.ADD, 0, 1);
            Due.yes("some run", x.canComplete());
            Due.no("every run", x.canStick());
            x.begin(0, 1);
            Due.yes("though a run before has kept the lock", x.canComplete());
            Due.no("though a run before has kept the lock, canStick", x.canStick());
            x.drop(0);
            x.emit(2, Op.LOCK, lock, 0);
            Due.no("for another thread too", x.canStick());
        }
    }

    private static void variablesBeginAsSet() {
        for (int variable = 0; variable < 4; variable++) {
            for (int value : Ints.any()) {
                InterleaveExplorer x = new InterleaveExplorer();
                x.begin(variable, value);
                Due.is("the run of no instructions", x.least(variable), value);
                x.emit(0, Op.LOAD, 0, variable);
                x.emit(0, Op.CHECK, 0, value);
                x.emit(0, Op.PUT, ~value, variable);
                x.emit(1, Op.ADD, 0, 1);
                Due.no("in every run", x.canFail(0));
                Due.is("and what a run wrote is the end", x.greatest(variable), ~value);
                Due.is("but no later run's beginning", x.begin(variable, value), value);
                Due.no("again", x.canFail(0));
            }
        }
    }

    private static void zeroUnlessSet() {
        for (int set = 0; set < 4; set++) {
            InterleaveExplorer x = new InterleaveExplorer();
            x.begin(set, 9);
            for (int variable = 0; variable < 4; variable++) {
                Due.is("least of " + variable, x.least(variable), variable == set ? 9 : 0);
                Due.is("greatest of " + variable, x.greatest(variable), variable == set ? 9 : 0);
            }
        }
    }

    private static void finishedWithTheLast() {
        for (int thread = 0; thread < 3; thread++) {
            for (int before = 0; before < 5; before++) {
                InterleaveExplorer x = new InterleaveExplorer();
                for (int count = 0; count < before; count++) {
                    x.emit(thread, Op.ADD, 0, 1);
                }
                x.emit(thread, Op.AWAIT, 0, 1);
                Due.no("the last one is still to come", x.canComplete());
                Due.yes("the last one is still to come, canStick", x.canStick());
                x.begin(0, 1);
                Due.yes("the last one can be carried out", x.canComplete());
                Due.no("the last one can be carried out, canStick", x.canStick());
                Due.is("and all before it were", x.leastRegister(thread, 0), before);
            }
        }
    }

    private static void completeWhenAllHaveFinished() {
        for (int waiting = 0; waiting < 3; waiting++) {
            InterleaveExplorer x = new InterleaveExplorer();
            for (int thread = 0; thread < 3; thread++) {
                x.emit(thread, thread == waiting ? Op.AWAIT : Op.ADD, 0, 1);
            }
            Due.no("two of three have finished", x.canComplete());
            Due.no("nor do their ends count", x.canEnd(0, 0));
            x.drop(waiting);
            Due.yes("all have finished", x.canComplete());
            Due.yes("and the ends count", x.canEnd(0, 0));
        }
    }

    private static void withoutInstructions() {
        for (int threads = 0; threads < 8; threads++) {
            InterleaveExplorer x = new InterleaveExplorer();
            x.begin(3, 6);
            for (int thread = 0; thread < 3; thread++) {
                if ((threads >> thread & 1) == 1) {
                    x.emit(thread, Op.PUT, 7, thread);
                }
            }
            Due.yes("some threads have none, canComplete", x.canComplete());
            Due.no("some threads have none, canStick", x.canStick());
            Due.yes("some threads have none, settled", x.settled());
            for (int variable = 0; variable < 3; variable++) {
                Due.is("the end", x.least(variable), 7 * (threads >> variable & 1));
            }
            Due.is("the end of an unused variable", x.greatest(3), 6);
            for (int thread = 0; thread < 3; thread++) {
                x.drop(thread);
            }
            Due.yes("dropped instructions count no more", x.canComplete());
            Due.is("dropped instructions write no more", x.greatest(0), 0);
        }
    }

    private static void stuckIfSomeHasNotFinished() {
        for (int waiting = 0; waiting < 3; waiting++) {
            InterleaveExplorer x = new InterleaveExplorer();
            Due.no("no thread has any instruction", x.canStick());
            for (int thread = 0; thread < 3; thread++) {
                x.emit(thread, Op.ADD, 0, 1);
            }
            Due.no("all have finished", x.canStick());
            x.emit(waiting, Op.AWAIT, 3, 1);
            Due.yes("one alone has not", x.canStick());
            Due.no("one alone has not, canComplete", x.canComplete());
            x.emit((waiting + 1) % 3, Op.AWAIT, 3, 1);
            Due.yes("two have not", x.canStick());
            x.emit((waiting + 2) % 3, Op.AWAIT, 3, 1);
            Due.yes("none has", x.canStick());
            x.begin(3, 1);
            Due.no("all have again", x.canStick());
        }
    }

    private static void stuckIfNoneCanGoOn() {
        for (int last = 0; last < 3; last++) {
            InterleaveExplorer x = new InterleaveExplorer();
            x.emit(last, Op.PUT, 1, 0);
            x.emit((last + 1) % 3, Op.AWAIT, 0, 1);
            x.emit((last + 1) % 3, Op.PUT, 1, 1);
            x.emit((last + 2) % 3, Op.AWAIT, 1, 1);
            Due.no("two wait, but one can go on", x.canStick());
            Due.yes("two wait, but one can go on, canComplete", x.canComplete());
            x.drop(last);
            Due.yes("two wait, and the third has finished", x.canStick());
            x.emit(last, Op.LOCK, 0, 0);
            x.emit(last, Op.LOCK, 0, 0);
            x.emit(last, Op.PUT, 1, 0);
            Due.yes("two wait, and the third can't go on", x.canStick());
            Due.no("two wait, and the third can't go on, canComplete", x.canComplete());
        }
    }

    private static void endsWhenItFails() {
        for (int failing = 0; failing < 3; failing++) {
            int other = (failing + 1) % 3;
            InterleaveExplorer x = new InterleaveExplorer();
            x.emit(failing, Op.CHECK, 0, 1);
            x.emit(failing, Op.PUT, 1, 0);
            x.emit(other, Op.AWAIT, 0, 1);
            x.emit(other, Op.CHECK, 0, 1);
            Due.yes("it fails", x.canFail(failing));
            Due.no("what comes after it in the thread is not carried out", x.canFail(other));
            Due.no("it is not stuck, though another thread waits", x.canStick());
            Due.no("it is not complete", x.canComplete());
            Due.no("its variables are no end", x.canEnd(0, 0));
            x.drop(other);
            Due.no("it is not complete when it was the only thread", x.canComplete());
            Due.no("nor stuck", x.canStick());
            x.drop(failing);
            x.emit(failing, Op.CHECK, 0, 1);
            Due.yes("a last instruction that fails", x.canFail(failing));
            Due.no("a last instruction that fails, canComplete", x.canComplete());
        }
    }

    private static void failsBesideOthers() {
        for (int failing = 0; failing < 3; failing++) {
            int other = (failing + 2) % 3;
            InterleaveExplorer x = new InterleaveExplorer();
            x.emit(failing, Op.LOAD, 0, 0);
            x.emit(failing, Op.CHECK, 0, 1);
            x.emit(other, Op.PUT, 1, 0);
            x.emit(other, Op.AWAIT, 1, 0);
            x.emit(failing, Op.PUT, 5, 1);
            Due.yes("one run fails", x.canFail(failing));
            Due.yes("another is complete", x.canComplete());
            Due.yes("another is stuck", x.canStick());
            Due.is("the end of the complete ones alone", x.least(1), 5);
            Due.is("the register of the complete ones alone", x.leastRegister(failing, 0), 1);
        }
    }

    /** Thread 0 counts a variable up to 5 while thread 1 looks at it twice. */
    private static void everyChoiceOfTwo() {
        InterleaveExplorer x = new InterleaveExplorer();
        for (int value = 1; value <= 5; value++) {
            x.emit(0, Op.PUT, value, 0);
        }
        x.emit(1, Op.LOAD, 0, 0);
        x.emit(1, Op.STORE, 0, 1);
        x.emit(1, Op.LOAD, 1, 0);
        x.emit(1, Op.STORE, 1, 2);
        for (int first = -1; first <= 6; first++) {
            for (int second = -1; second <= 6; second++) {
                boolean due = first >= 0 && first <= second && second <= 5;
                Due.is("it sees " + first + " and " + second, x.canEndBoth(1, first, 2, second), due);
            }
        }
        Due.is("the least it sees at last", x.leastRegister(1, 1), 0);
        Due.is("the greatest it sees at first", x.greatest(1), 5);
    }

    /** Each thread takes what the one before it has left in the variable, and leaves its own. */
    private static void everyChoiceOfThree() {
        InterleaveExplorer x = new InterleaveExplorer();
        for (int thread = 0; thread < 3; thread++) {
            x.emit(thread, Op.ADD, 0, thread + 1);
            x.emit(thread, Op.SWAP, 0, 0);
            x.emit(thread, Op.STORE, 0, thread + 1);
        }
        for (int last = 1; last <= 3; last++) {
            for (int before = 0; before <= 3; before++) {
                boolean due = before != 0 && before != last;
                Due.is(last + " is left last, after " + before, x.canEndBoth(0, last, last, before), due);
            }
        }
        for (int thread = 1; thread <= 3; thread++) {
            for (int before = 0; before < 4; before++) {
                Due.is("thread " + (thread - 1) + " comes after " + before, x.canEnd(thread, before), before != thread);
            }
        }
    }

    /** The last thread to go, and how far the others had come when it began, in the biggest split. */
    private static void everyChoiceOfTheMost() {
        for (int shift = 0; shift < 3; shift++) {
            int watcher = shift;
            int first = (shift + 1) % 3;
            int second = (shift + 2) % 3;
            InterleaveExplorer x = new InterleaveExplorer();
            x.emit(watcher, Op.LOAD, 0, 0);
            x.emit(watcher, Op.LOAD, 1, 1);
            x.emit(watcher, Op.STORE, 0, 2);
            x.emit(watcher, Op.STORE, 1, 3);
            for (int value = 1; value <= 3; value++) {
                x.emit(first, Op.PUT, value, 0);
                x.emit(second, Op.PUT, value, 1);
            }
            for (int seen = -1; seen <= 4; seen++) {
                for (int alsoSeen = -1; alsoSeen <= 4; alsoSeen++) {
                    boolean due = seen >= 0 && seen <= 3 && alsoSeen >= 0 && alsoSeen <= 3;
                    Due.is("thread " + watcher + " sees " + seen + " and " + alsoSeen,
                            x.canEndBoth(2, seen, 3, alsoSeen), due);
                }
            }
        }
    }

    private static void oneRunOfAll() {
        for (int pair = 0; pair < 6; pair++) {
            int first = pair / 2;
            int second = (first + 1 + pair % 2) % 3;
            for (int ofFirst = 1; ofFirst <= 5; ofFirst++) {
                for (int ofSecond = 2; ofSecond <= 5; ofSecond++) {
                    for (int ofThird = 2; ofThird <= 5 && ofFirst + ofSecond + ofThird <= 10; ofThird++) {
                        threadsInTurn(first, second, ofFirst, ofSecond, ofThird);
                    }
                }
            }
        }
    }

    /** A 1 comes to variable 2 only if each thread begins after the one before it has finished. */
    private static void threadsInTurn(int first, int second, int ofFirst, int ofSecond, int ofThird) {
        int third = 3 - first - second;
        InterleaveExplorer x = new InterleaveExplorer();
        emitIdle(x, first, ofFirst - 1);
        x.emit(first, Op.PUT, 1, 0);
        x.emit(second, Op.LOAD, 0, 0);
        emitIdle(x, second, ofSecond - 2);
        x.emit(second, Op.STORE, 0, 1);
        x.emit(third, Op.LOAD, 0, 1);
        x.emit(third, Op.STORE, 0, 2);
        emitIdle(x, third, ofThird - 2);
        String what = first + ", " + second + ", " + third + " with " + ofFirst + ", " + ofSecond + ", " + ofThird;
        Due.yes(what + ", the one run", x.canEnd(2, 1));
        Due.is(what + ", the one run, greatest", x.greatest(2), 1);
        Due.is(what + ", all others", x.least(2), 0);
        Due.no(what + ", settled", x.settled());
    }

    private static void emitIdle(InterleaveExplorer x, int thread, int count) {
        for (int i = 0; i < count; i++) {
            x.emit(thread, Op.ADD, 1, 1);
        }
    }

    private static void nothingIsAtTheEnd(String what, InterleaveExplorer x) {
        for (int variable = 0; variable < 4; variable++) {
            Due.is(what + ", least", x.least(variable), NONE);
            Due.is(what + ", greatest", x.greatest(variable), NONE);
            Due.no(what + ", canEnd with NONE", x.canEnd(variable, NONE));
            Due.no(what + ", canEnd with 0", x.canEnd(variable, 0));
            Due.no(what + ", canEndBoth with NONE", x.canEndBoth(variable, NONE, variable, NONE));
        }
        for (int thread = 0; thread < 3; thread++) {
            Due.is(what + ", leastRegister", x.leastRegister(thread, 0), NONE);
            Due.is(what + ", leastRegister", x.leastRegister(thread, 1), NONE);
        }
    }

    private static void noneIfNoRunIsComplete() {
        for (int thread = 0; thread < 3; thread++) {
            InterleaveExplorer x = new InterleaveExplorer();
            x.emit(thread, Op.PUT, 3, 0);
            Due.is("while a run is complete", x.least(0), 3);
            x.emit(thread, Op.AWAIT, 1, 1);
            nothingIsAtTheEnd("every run is stuck", x);
            x.drop(thread);
            x.emit(thread, Op.CHECK, 0, 1);
            nothingIsAtTheEnd("every run fails", x);
            x.emit((thread + 1) % 3, Op.AWAIT, 0, 4);
            x.emit((thread + 2) % 3, Op.PUT, 4, 0);
            nothingIsAtTheEnd("every run fails, sooner or later", x);
            x.drop(thread);
            x.emit(thread, Op.LOAD, 0, 0);
            x.emit(thread, Op.CHECK, 0, 0);
            x.emit(thread, Op.AWAIT, 1, 1);
            nothingIsAtTheEnd("every run is stuck or fails", x);
            x.drop(thread);
            Due.is("when a run is complete again", x.least(0), 4);
        }
    }

    private static void noneOnlyIfNoRunIsComplete() {
        InterleaveExplorer x = Programs.crossedLocks();
        x.emit(0, Op.PUT, 3, 0);
        Due.yes("some runs are stuck", x.canStick());
        Due.is("one is complete, least", x.least(0), 3);
        Due.is("one is complete, greatest", x.greatest(1), 0);
        Due.is("one is complete, leastRegister", x.leastRegister(2, 0), 0);
        InterleaveExplorer y = new InterleaveExplorer();
        y.begin(0, NONE);
        y.begin(1, MIN);
        y.emit(1, Op.LOAD, 0, 0);
        Due.is("a value that is NONE, least", y.least(0), NONE);
        Due.is("a value that is NONE, greatest", y.greatest(0), NONE);
        Due.is("a register that is NONE", y.leastRegister(1, 0), NONE);
        Due.yes("a value that is NONE, canEnd", y.canEnd(0, NONE));
        Due.yes("a value that is NONE, canComplete", y.canComplete());
        Due.yes("a value that is NONE, settled", y.settled());
        Due.is("a value below NONE, least", y.least(1), MIN);
        Due.is("a value below NONE, greatest", y.greatest(1), MIN);
    }

    private static void eachProgram(String what, Consumer<InterleaveExplorer> questions) {
        Programs.all().forEach((name, program) -> Twins.stayAlike(what + ", " + name, program, questions));
    }

    private static void questionsChangeNothing() {
        eachProgram("canComplete", InterleaveExplorer::canComplete);
        eachProgram("canStick", InterleaveExplorer::canStick);
        eachProgram("settled", InterleaveExplorer::settled);
        for (int argument : new int[] {0, 1, 2, 3, 4, -1, MIN, MAX}) {
            eachProgram("canFail", x -> x.canFail(argument));
            eachProgram("canEnd", x -> x.canEnd(argument, 1));
            eachProgram("canEndBoth", x -> x.canEndBoth(argument, 1, 0, 1));
            eachProgram("canEndBoth", x -> x.canEndBoth(0, 1, argument, 1));
            eachProgram("least", x -> x.least(argument));
            eachProgram("greatest", x -> x.greatest(argument));
            eachProgram("leastRegister", x -> x.leastRegister(argument, 1));
            eachProgram("leastRegister", x -> x.leastRegister(2, argument));
        }
    }

    private static void wrongVariableFalse() {
        for (int variable : Ints.wrongVariables()) {
            for (int value : new int[] {0, 1, BAD_VARIABLE, NONE}) {
                InterleaveExplorer x = new InterleaveExplorer();
                x.emit(0, Op.ADD, 0, 1);
                Due.no("canEnd of " + variable, x.canEnd(variable, value));
                Due.no("canEndBoth, first " + variable, x.canEndBoth(variable, value, 0, 0));
                Due.no("canEndBoth, second " + variable, x.canEndBoth(0, 0, variable, value));
                Due.no("canEndBoth, both " + variable, x.canEndBoth(variable, value, variable, value));
                Due.yes("and the right ones after it", x.canEndBoth(0, 0, 3, 0));
                x.emit(0, Op.AWAIT, 0, 1);
                Due.no("no run complete, canEnd of " + variable, x.canEnd(variable, value));
                Due.no("no run complete, canEndBoth of " + variable, x.canEndBoth(variable, value, variable, value));
            }
        }
    }

    private static void wrongVariableNumber() {
        for (int variable : Ints.wrongVariables()) {
            InterleaveExplorer x = Programs.lostUpdate();
            Due.is("least of " + variable, x.least(variable), BAD_VARIABLE);
            Due.is("greatest of " + variable, x.greatest(variable), BAD_VARIABLE);
            Due.is("and the right ones after it", x.least(3), 0);
            InterleaveExplorer y = Programs.neverComplete();
            Due.is("no run complete, least of " + variable, y.least(variable), BAD_VARIABLE);
            Due.is("no run complete, greatest of " + variable, y.greatest(variable), BAD_VARIABLE);
        }
    }
}
