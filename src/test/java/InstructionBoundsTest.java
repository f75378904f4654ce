/** Each row of the table of instructions (section "Terms"), for any a and b. */
public final class InstructionBoundsTest {
    private static final int MIN = Ints.MIN;
    private static final int MAX = Ints.MAX;

    public static void main(String[] args) {
        Due.sentence("0 LOAD   r = v", InstructionBoundsTest::load);
        Due.sentence("1 STORE  v = r", InstructionBoundsTest::store);
        Due.sentence("2 ADD    r = r + c", InstructionBoundsTest::add);
        Due.sentence("Values are ints that wrap", InstructionBoundsTest::wrap);
        Due.sentence("3 PUT    v = a (here a is the number itself)", InstructionBoundsTest::put);
        Due.sentence("7 SWAP     r and v exchange their values", InstructionBoundsTest::swap);
        Due.sentence("6 CHECK    if r is not c, the run FAILS: r", InstructionBoundsTest::checkRegister);
        Due.sentence("6 CHECK    if r is not c, the run FAILS: c", InstructionBoundsTest::checkNumber);
        Due.sentence("AWAIT: while variable a & 3 is c", InstructionBoundsTest::awaitVariable);
        Due.sentence("AWAIT: c the number b", InstructionBoundsTest::awaitNumber);
        Due.sentence("AWAIT: can be carried out only while", InstructionBoundsTest::awaitOnlyWhile);
        Due.sentence("AWAIT: it changes nothing", InstructionBoundsTest::awaitChangesNothing);
        Due.sentence("LOCK: m lock a & 1", InstructionBoundsTest::lockNumber);
        Due.sentence("LOCK: can be carried out only while lock m is free", InstructionBoundsTest::lockOnlyWhileFree);
        Due.sentence("LOCK: only while free, the holder itself", InstructionBoundsTest::lockOfTheHolder);
        Due.sentence("LOCK: this thread holds it then", InstructionBoundsTest::lockHolder);
        Due.sentence("LOCK and UNLOCK change locks alone", InstructionBoundsTest::locksAlone);
        Due.sentence("UNLOCK: m lock a & 1", InstructionBoundsTest::unlockNumber);
        Due.sentence("UNLOCK: lock m is free if this thread holds it", InstructionBoundsTest::unlockOfTheHolder);
        Due.sentence("UNLOCK: else nothing happens, a free lock", InstructionBoundsTest::unlockOfAFreeLock);
        Due.sentence("UNLOCK: else nothing happens, another's lock", InstructionBoundsTest::unlockOfAnothersLock);
        Due.sentence("UNLOCK: else nothing happens, no longer one's own", InstructionBoundsTest::unlockTwice);
        Due.end();
    }

    /** Variables that begin with 10, 20, 30 and 40. */
    private static InterleaveExplorer tens() {
        InterleaveExplorer x = new InterleaveExplorer();
        for (int variable = 0; variable < 4; variable++) {
            x.begin(variable, 10 * (variable + 1));
        }
        return x;
    }

    /** The same, and registers 0 and 1 of thread 1 with 5 and 6. */
    private static InterleaveExplorer tensAndRegisters() {
        InterleaveExplorer x = tens();
        x.emit(1, Op.ADD, 0, 5);
        x.emit(1, Op.ADD, 1, 6);
        return x;
    }

    private static void variablesAre(String what, InterleaveExplorer x, int changed, int value) {
        for (int variable = 0; variable < 4; variable++) {
            int due = variable == changed ? value : 10 * (variable + 1);
            Due.is(what + ", variable " + variable, x.least(variable), due);
            Due.is(what + ", greatest of variable " + variable, x.greatest(variable), due);
        }
    }

    private static void registersAre(String what, InterleaveExplorer x, int first, int second) {
        Due.is(what + ", register 0", x.leastRegister(1, 0), first);
        Due.is(what + ", register 1", x.leastRegister(1, 1), second);
        for (int thread = 0; thread <= 2; thread += 2) {
            Due.is(what + ", register 0 of thread " + thread, x.leastRegister(thread, 0), 0);
            Due.is(what + ", register 1 of thread " + thread, x.leastRegister(thread, 1), 0);
        }
    }

    private static void load() {
        for (int a : Ints.any()) {
            for (int b : Ints.any()) {
                String what = "LOAD " + a + " " + b;
                InterleaveExplorer x = tensAndRegisters();
                x.emit(1, Op.LOAD, a, b);
                int loaded = 10 * (Ints.ofFour(b) + 1);
                registersAre(what, x, Ints.ofTwo(a) == 0 ? loaded : 5, Ints.ofTwo(a) == 1 ? loaded : 6);
                variablesAre(what, x, -1, 0);
            }
        }
    }

    private static void store() {
        for (int a : Ints.any()) {
            for (int b : Ints.any()) {
                String what = "STORE " + a + " " + b;
                InterleaveExplorer x = tensAndRegisters();
                x.emit(1, Op.STORE, a, b);
                registersAre(what, x, 5, 6);
                variablesAre(what, x, Ints.ofFour(b), 5 + Ints.ofTwo(a));
            }
        }
    }

    private static void add() {
        for (int a : Ints.any()) {
            for (int b : Ints.any()) {
                String what = "ADD " + a + " " + b;
                InterleaveExplorer x = tensAndRegisters();
                x.emit(1, Op.ADD, a, b);
                registersAre(what, x, Ints.ofTwo(a) == 0 ? 5 + b : 5, Ints.ofTwo(a) == 1 ? 6 + b : 6);
                variablesAre(what, x, -1, 0);
            }
        }
    }

    private static void sumIs(int first, int second, int due) {
        String what = first + " and " + second;
        InterleaveExplorer x = new InterleaveExplorer();
        x.begin(2, first);
        x.emit(0, Op.LOAD, 1, 2);
        x.emit(0, Op.ADD, 1, second);
        x.emit(0, Op.CHECK, 1, due);
        x.emit(0, Op.STORE, 1, 3);
        x.emit(1, Op.AWAIT, 3, due);
        Due.is(what + ", in the register", x.leastRegister(0, 1), due);
        Due.is(what + ", least", x.least(3), due);
        Due.is(what + ", greatest", x.greatest(3), due);
        Due.yes(what + ", canEnd", x.canEnd(3, due));
        Due.no(what + ", CHECK", x.canFail(0));
        Due.yes(what + ", AWAIT", x.canComplete());
        Due.is(what + ", what the variable begins with stays", x.begin(2, 0), first);
    }

    private static void wrap() {
        sumIs(MAX, 1, MIN);
        sumIs(MIN, -1, MAX);
        sumIs(MAX, MAX, -2);
        sumIs(MIN, MIN, 0);
        sumIs(MIN, MAX, -1);
        sumIs(-1, MIN, MAX);
        sumIs(1, MAX, MIN);
        sumIs(MAX, 0, MAX);
        sumIs(MIN, 0, MIN);
    }

    private static void put() {
        for (int a : Ints.any()) {
            for (int b : Ints.any()) {
                String what = "PUT " + a + " " + b;
                InterleaveExplorer x = tensAndRegisters();
                x.emit(1, Op.PUT, a, b);
                registersAre(what, x, 5, 6);
                variablesAre(what, x, Ints.ofFour(b), a);
            }
        }
    }

    private static void swap() {
        for (int a : Ints.any()) {
            for (int b : Ints.any()) {
                String what = "SWAP " + a + " " + b;
                InterleaveExplorer x = tensAndRegisters();
                x.emit(1, Op.SWAP, a, b);
                int got = 10 * (Ints.ofFour(b) + 1);
                registersAre(what, x, Ints.ofTwo(a) == 0 ? got : 5, Ints.ofTwo(a) == 1 ? got : 6);
                variablesAre(what, x, Ints.ofFour(b), 5 + Ints.ofTwo(a));
                x.emit(1, Op.SWAP, a, b);
                registersAre(what + " twice", x, 5, 6);
                variablesAre(what + " twice", x, -1, 0);
            }
        }
    }

    private static void checkRegister() {
        for (int a : Ints.any()) {
            String what = "CHECK with a " + a;
            InterleaveExplorer x = tensAndRegisters();
            x.emit(1, Op.CHECK, a, 5 + Ints.ofTwo(a));
            Due.no(what + " that holds", x.canFail(1));
            registersAre(what + " that holds", x, 5, 6);
            variablesAre(what + " that holds", x, -1, 0);
            x.emit(1, Op.CHECK, a, 6 - Ints.ofTwo(a));
            Due.yes(what + " of what the other register is", x.canFail(1));
            Due.no(what + " that does not hold, canComplete", x.canComplete());
        }
    }

    private static void checkNumber() {
        for (int c : Ints.any()) {
            InterleaveExplorer x = new InterleaveExplorer();
            x.emit(2, Op.ADD, 0, c);
            x.emit(2, Op.CHECK, 0, c);
            Due.no("CHECK of " + c, x.canFail(2));
            Due.yes("CHECK of " + c + ", canComplete", x.canComplete());
            for (int wrong : Ints.near(c)) {
                InterleaveExplorer y = new InterleaveExplorer();
                y.emit(2, Op.ADD, 0, c);
                y.emit(2, Op.CHECK, 0, wrong);
                Due.yes("CHECK of " + wrong + " while it is " + c, y.canFail(2));
                Due.no("CHECK of " + wrong + " while it is " + c + ", canComplete", y.canComplete());
            }
        }
    }

    private static void awaitVariable() {
        for (int a : Ints.any()) {
            for (int variable = 0; variable < 4; variable++) {
                InterleaveExplorer x = tens();
                x.emit(0, Op.AWAIT, a, 10 * (variable + 1));
                boolean due = Ints.ofFour(a) == variable;
                Due.is("AWAIT with a " + a + " of variable " + variable, x.canComplete(), due);
                Due.is("AWAIT with a " + a + " of variable " + variable + ", canStick", x.canStick(), !due);
            }
        }
    }

    private static void awaitNumber() {
        for (int c : Ints.any()) {
            InterleaveExplorer x = new InterleaveExplorer();
            x.begin(1, c);
            x.emit(2, Op.AWAIT, 1, c);
            Due.yes("AWAIT of " + c, x.canComplete());
            Due.no("AWAIT of " + c + ", canStick", x.canStick());
            for (int wrong : Ints.near(c)) {
                InterleaveExplorer y = new InterleaveExplorer();
                y.begin(1, c);
                y.emit(2, Op.AWAIT, 1, wrong);
                Due.no("AWAIT of " + wrong + " while it is " + c, y.canComplete());
                Due.yes("AWAIT of " + wrong + " while it is " + c + ", canStick", y.canStick());
            }
        }
    }

    private static void awaitOnlyWhile() {
        for (int waiting = 0; waiting < 3; waiting++) {
            int writing = (waiting + 1) % 3;
            InterleaveExplorer x = new InterleaveExplorer();
            x.emit(waiting, Op.AWAIT, 0, 1);
            x.emit(waiting, Op.LOAD, 0, 0);
            x.emit(writing, Op.PUT, 1, 0);
            Due.yes("before the value is there, the thread waits", x.canComplete());
            Due.no("and is not stuck while another can go on", x.canStick());
            Due.is("it goes on when the value is there", x.leastRegister(waiting, 0), 1);
            x.emit(writing, Op.PUT, 2, 0);
            Due.yes("it can go on while the value is there", x.canComplete());
            Due.yes("not when the value has passed", x.canStick());
            Due.is("once carried out, the value may go", x.leastRegister(waiting, 0), 1);
            x.emit(writing, Op.PUT, 1, 0);
            Due.no("it can go on when the value is there again", x.canStick());
        }
    }

    private static void awaitChangesNothing() {
        for (int a : Ints.any()) {
            InterleaveExplorer x = tensAndRegisters();
            x.emit(1, Op.AWAIT, a, 10 * (Ints.ofFour(a) + 1));
            registersAre("AWAIT with a " + a, x, 5, 6);
            variablesAre("AWAIT with a " + a, x, -1, 0);
            x.emit(1, Op.LOCK, 0, 0);
            x.emit(1, Op.LOCK, 1, 0);
            Due.yes("AWAIT with a " + a + " takes no lock", x.canComplete());
            InterleaveExplorer y = tens();
            y.emit(1, Op.LOCK, a, 0);
            y.emit(1, Op.AWAIT, a, 10 * (Ints.ofFour(a) + 1));
            y.emit(1, Op.LOCK, a, 0);
            Due.no("AWAIT with a " + a + " frees no lock", y.canComplete());
        }
    }

    private static void lockNumber() {
        for (int a : Ints.any()) {
            for (int b : new int[] {0, 1, -1, MIN, MAX}) {
                InterleaveExplorer x = new InterleaveExplorer();
                x.emit(0, Op.LOCK, a, b);
                x.emit(2, Op.LOCK, Ints.ofTwo(a), 0);
                Due.no("LOCK " + a + " " + b + " and the same lock", x.canComplete());
                x.drop(2);
                x.emit(2, Op.LOCK, 1 - Ints.ofTwo(a), 0);
                Due.no("LOCK " + a + " " + b + " and the other lock", x.canStick());
                Due.yes("LOCK " + a + " " + b + " and the other lock, canComplete", x.canComplete());
            }
        }
    }

    private static void lockOnlyWhileFree() {
        for (int lock = 0; lock < 2; lock++) {
            for (int pair = 0; pair < 6; pair++) {
                int holder = pair / 2;
                int other = (holder + 1 + pair % 2) % 3;
                InterleaveExplorer x = new InterleaveExplorer();
                x.emit(holder, Op.LOCK, lock, 0);
                x.emit(holder, Op.PUT, 1, 0);
                x.emit(other, Op.AWAIT, 0, 1);
                Due.yes("without a second LOCK", x.canComplete());
                x.emit(other, Op.LOCK, lock, 0);
                Due.no("thread " + other + " while " + holder + " holds lock " + lock, x.canComplete());
                Due.yes("and it is stuck", x.canStick());
                x.emit(holder, Op.UNLOCK, lock, 0);
                Due.yes("when it is free again", x.canComplete());
                Due.no("and never stuck", x.canStick());
            }
        }
    }

    private static void lockOfTheHolder() {
        for (int lock = 0; lock < 2; lock++) {
            for (int thread = 0; thread < 3; thread++) {
                InterleaveExplorer x = new InterleaveExplorer();
                x.emit(thread, Op.LOCK, lock, 0);
                Due.yes("the first LOCK", x.canComplete());
                x.emit(thread, Op.LOCK, lock, 0);
                Due.no("a second LOCK of thread " + thread, x.canComplete());
                Due.yes("a second LOCK of thread " + thread + ", canStick", x.canStick());
            }
        }
    }

    private static void lockHolder() {
        for (int lock = 0; lock < 2; lock++) {
            for (int thread = 0; thread < 3; thread++) {
                InterleaveExplorer x = new InterleaveExplorer();
                x.emit(thread, Op.LOCK, lock, 0);
                x.emit(thread, Op.LOCK, 1 - lock, 0);
                x.emit(thread, Op.UNLOCK, lock, 0);
                x.emit((thread + 1) % 3, Op.LOCK, lock, 0);
                Due.yes("thread " + thread + " can free lock " + lock, x.canComplete());
                x.emit((thread + 2) % 3, Op.LOCK, 1 - lock, 0);
                Due.no("and still holds the other, when it has finished too", x.canComplete());
            }
        }
    }

    private static void locksAlone() {
        for (int a : Ints.any()) {
            for (int b : Ints.any()) {
                InterleaveExplorer x = tensAndRegisters();
                x.emit(1, Op.LOCK, a, b);
                registersAre("LOCK " + a + " " + b, x, 5, 6);
                variablesAre("LOCK " + a + " " + b, x, -1, 0);
                x.emit(1, Op.UNLOCK, a, b);
                registersAre("UNLOCK " + a + " " + b, x, 5, 6);
                variablesAre("UNLOCK " + a + " " + b, x, -1, 0);
            }
        }
    }

    private static void unlockNumber() {
        for (int a : Ints.any()) {
            for (int b : new int[] {0, 1, -1, MIN, MAX}) {
                for (int lock = 0; lock < 2; lock++) {
                    InterleaveExplorer x = new InterleaveExplorer();
                    x.emit(0, Op.LOCK, 0, 0);
                    x.emit(0, Op.LOCK, 1, 0);
                    x.emit(0, Op.UNLOCK, a, b);
                    x.emit(0, Op.LOCK, lock, 0);
                    boolean due = lock == Ints.ofTwo(a);
                    Due.is("UNLOCK " + a + " " + b + ", then lock " + lock, x.canComplete(), due);
                    Due.is("UNLOCK " + a + " " + b + ", then lock " + lock + ", canStick", x.canStick(), !due);
                }
            }
        }
    }

    private static void unlockOfTheHolder() {
        for (int lock = 0; lock < 2; lock++) {
            for (int thread = 0; thread < 3; thread++) {
                InterleaveExplorer x = new InterleaveExplorer();
                x.emit(thread, Op.LOCK, lock, 0);
                x.emit(thread, Op.UNLOCK, lock, 0);
                x.emit(thread, Op.LOCK, lock, 0);
                Due.yes("thread " + thread + " locks again", x.canComplete());
                x.emit(thread, Op.UNLOCK, lock, 0);
                x.emit((thread + 1) % 3, Op.LOCK, lock, 0);
                x.emit((thread + 1) % 3, Op.UNLOCK, lock, 0);
                x.emit((thread + 2) % 3, Op.LOCK, lock, 0);
                x.emit((thread + 2) % 3, Op.UNLOCK, lock, 0);
                Due.yes("and so do the others", x.canComplete());
                Due.no("and none is stuck", x.canStick());
            }
        }
    }

    private static void unlockOfAFreeLock() {
        for (int lock = 0; lock < 2; lock++) {
            for (int thread = 0; thread < 3; thread++) {
                InterleaveExplorer x = new InterleaveExplorer();
                x.emit(thread, Op.UNLOCK, lock, 0);
                Due.yes("the run goes on", x.canComplete());
                Due.no("the run goes on, canStick", x.canStick());
                Due.no("the run goes on, canFail", x.canFail(thread));
                x.emit(thread, Op.UNLOCK, lock, 0);
                x.emit((thread + 1) % 3, Op.LOCK, lock, 0);
                x.emit((thread + 2) % 3, Op.LOCK, 1 - lock, 0);
                Due.no("the locks stay free", x.canStick());
                x.drop((thread + 2) % 3);
                x.emit((thread + 2) % 3, Op.LOCK, lock, 0);
                Due.no("a LOCK after it holds as ever", x.canComplete());
            }
        }
    }

    private static void unlockOfAnothersLock() {
        for (int lock = 0; lock < 2; lock++) {
            for (int pair = 0; pair < 6; pair++) {
                int holder = pair / 2;
                int other = (holder + 1 + pair % 2) % 3;
                InterleaveExplorer x = new InterleaveExplorer();
                x.emit(holder, Op.LOCK, lock, 0);
                x.emit(holder, Op.PUT, 1, 0);
                x.emit(other, Op.AWAIT, 0, 1);
                x.emit(other, Op.UNLOCK, lock, 0);
                Due.yes("the run goes on", x.canComplete());
                Due.no("the run goes on, canStick", x.canStick());
                x.emit(other, Op.PUT, 2, 0);
                x.emit(other, Op.LOCK, lock, 0);
                Due.no("thread " + other + " does not free what " + holder + " holds", x.canComplete());
                x.emit(holder, Op.AWAIT, 0, 2);
                x.emit(holder, Op.UNLOCK, lock, 0);
                Due.yes("and " + holder + " holds it still, so that it can free it", x.canComplete());
            }
        }
    }

    private static void unlockTwice() {
        for (int lock = 0; lock < 2; lock++) {
            InterleaveExplorer x = new InterleaveExplorer();
            x.emit(0, Op.LOCK, lock, 0);
            x.emit(0, Op.UNLOCK, lock, 0);
            x.emit(0, Op.AWAIT, 0, 1);
            x.emit(0, Op.UNLOCK, lock, 0);
            x.emit(0, Op.PUT, 2, 0);
            x.emit(1, Op.LOCK, lock, 0);
            x.emit(1, Op.PUT, 1, 0);
            Due.yes("a second UNLOCK", x.canComplete());
            x.emit(2, Op.AWAIT, 0, 2);
            Due.yes("and a third thread that waits for it", x.canComplete());
            x.emit(2, Op.LOCK, lock, 0);
            Due.no("it frees nothing that thread 1 holds by now", x.canComplete());
        }
    }
}
