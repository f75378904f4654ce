/** What each instruction does, and which bits of a and b it reads (section "Terms"). */
public final class InstructionsTest {
    private static final int MIN = Integer.MIN_VALUE;
    private static final int MAX = Integer.MAX_VALUE;

    public static void main(String[] args) {
        load();
        store();
        add();
        put();
        swap();
        check();
        await();
        lock();
        unlock();
        registersBelongToTheirThread();
        Due.end();
    }

    private static void load() {
        InterleaveExplorer x = new InterleaveExplorer();
        x.begin(2, 7);
        x.begin(3, 9);
        x.emit(0, Op.LOAD, 0, 2);
        x.emit(0, Op.LOAD, -1, -1);
        Due.is("LOAD into register 0", x.leastRegister(0, 0), 7);
        Due.is("LOAD with a and b of -1: register 1, variable 3", x.leastRegister(0, 1), 9);
        Due.is("LOAD leaves the variable", x.least(2), 7);
        x.drop(0);
        x.emit(0, Op.LOAD, 2, 6);
        Due.is("LOAD with a 2 and b 6: register 0, variable 2", x.leastRegister(0, 0), 7);
        Due.is("the other register stays 0", x.leastRegister(0, 1), 0);
    }

    private static void store() {
        InterleaveExplorer x = new InterleaveExplorer();
        x.begin(0, 3);
        x.emit(0, Op.ADD, 1, 5);
        x.emit(0, Op.STORE, 1, 1);
        x.emit(0, Op.STORE, 3, 7);
        x.emit(0, Op.STORE, 4, 4);
        Due.is("STORE of register 1 in variable 1", x.least(1), 5);
        Due.is("STORE with a 3 and b 7: register 1, variable 3", x.least(3), 5);
        Due.is("STORE with a 4 and b 4: register 0, variable 0", x.greatest(0), 0);
        Due.is("STORE leaves the register", x.leastRegister(0, 1), 5);
        Due.is("no other variable changes", x.greatest(2), 0);
    }

    private static void add() {
        InterleaveExplorer x = new InterleaveExplorer();
        x.emit(0, Op.ADD, 0, MAX);
        x.emit(0, Op.ADD, 2, 1);
        x.emit(1, Op.ADD, 1, MIN);
        x.emit(1, Op.ADD, 3, -1);
        x.emit(2, Op.ADD, 0, 1000);
        x.emit(2, Op.ADD, 0, -7);
        Due.is("ADD wraps upwards", x.leastRegister(0, 0), MIN);
        Due.is("ADD wraps downwards", x.leastRegister(1, 1), MAX);
        Due.is("ADD takes the whole number b", x.leastRegister(2, 0), 993);
        Due.is("ADD leaves the other register", x.leastRegister(1, 0), 0);
        Due.is("ADD changes no variable", x.greatest(0), 0);
    }

    private static void put() {
        InterleaveExplorer x = new InterleaveExplorer();
        x.emit(0, Op.PUT, 123456, 1);
        x.emit(0, Op.PUT, MIN, -2);
        Due.is("PUT of the whole number a", x.least(1), 123456);
        Due.is("PUT with b -2: variable 2", x.greatest(2), MIN);
        Due.is("PUT changes no register", x.leastRegister(0, 0), 0);
        Due.is("PUT changes no other variable", x.greatest(0), 0);
        x.emit(0, Op.LOCK, 0, 0);
        x.emit(0, Op.LOCK, 1, 0);
        Due.yes("PUT takes no lock", x.canComplete());
    }

    private static void swap() {
        InterleaveExplorer x = new InterleaveExplorer();
        x.begin(1, 4);
        x.emit(0, Op.ADD, 1, 9);
        x.emit(0, Op.SWAP, -3, 5);
        Due.is("SWAP gives the variable the register's value", x.least(1), 9);
        Due.is("SWAP gives the register the variable's value", x.leastRegister(0, 1), 4);
        x.emit(0, Op.SWAP, 0, 1);
        Due.is("SWAP with register 0", x.greatest(1), 0);
        Due.is("SWAP into register 0", x.leastRegister(0, 0), 9);
        Due.is("SWAP leaves the other register", x.leastRegister(0, 1), 4);
    }

    private static void check() {
        InterleaveExplorer x = new InterleaveExplorer();
        x.emit(0, Op.ADD, 1, 9);
        x.emit(0, Op.CHECK, 3, 9);
        x.emit(0, Op.CHECK, 2, 0);
        Due.no("a CHECK that holds does not fail", x.canFail(0));
        Due.yes("a CHECK that holds lets the run go on", x.canComplete());
        Due.is("a CHECK changes no register", x.leastRegister(0, 1), 9);
        x.emit(0, Op.CHECK, 1, 9 + 4);
        Due.yes("CHECK takes the whole number b", x.canFail(0));
        Due.no("a run that fails is not complete", x.canComplete());
        Due.no("a run that fails is not stuck", x.canStick());
    }

    private static void await() {
        InterleaveExplorer x = new InterleaveExplorer();
        x.begin(3, 8);
        x.emit(0, Op.AWAIT, 7, 8);
        x.emit(0, Op.AWAIT, -1, 8);
        Due.yes("AWAIT of what is so", x.canComplete());
        Due.is("AWAIT changes no variable", x.least(3), 8);
        Due.is("AWAIT changes no register", x.leastRegister(0, 1), 0);
        x.emit(0, Op.AWAIT, 3, 12);
        Due.no("AWAIT takes the whole number b", x.canComplete());
        Due.yes("AWAIT of what never is so", x.canStick());
        x.emit(1, Op.PUT, 12, 3);
        Due.yes("AWAIT goes on when another thread writes", x.canComplete());
        Due.yes("the write comes too early for the first AWAIT", x.canStick());
        x.drop(0);
        x.emit(0, Op.AWAIT, 3, 8);
        Due.yes("the AWAIT can come before the write", x.canComplete());
        Due.yes("the value can have passed", x.canStick());
    }

    private static void lock() {
        InterleaveExplorer x = new InterleaveExplorer();
        x.emit(0, Op.LOCK, 1, 0);
        Due.yes("a thread may finish with a lock", x.canComplete());
        x.emit(0, Op.LOCK, 0, 0);
        Due.yes("the locks are two", x.canComplete());
        x.emit(1, Op.LOCK, -1, 0);
        Due.yes("lock a & 1: the other thread goes first", x.canStick());
        Due.no("a finished thread keeps its lock", x.canComplete());
        x.drop(1);
        x.emit(0, Op.LOCK, 3, 0);
        Due.no("the holder can't lock again", x.canComplete());
        Due.yes("the holder is stuck on its own lock", x.canStick());
        x.drop(0);
        Due.yes("locks are free when a run begins", x.canComplete());
    }

    private static void unlock() {
        InterleaveExplorer x = new InterleaveExplorer();
        x.emit(0, Op.UNLOCK, 0, 0);
        x.emit(0, Op.LOCK, 0, 0);
        x.emit(0, Op.UNLOCK, 2, 0);
        x.emit(0, Op.LOCK, 0, 0);
        Due.yes("UNLOCK of a free lock does nothing, of one's own frees it", x.canComplete());
        x.drop(0);
        x.begin(0, 6);
        x.emit(0, Op.UNLOCK, 0, 0);
        Due.is("UNLOCK changes no variable", x.least(0), 6);
        Due.is("UNLOCK changes no register", x.leastRegister(0, 0), 0);
        x.drop(0);
        x.emit(0, Op.LOCK, 0, 0);
        x.emit(0, Op.UNLOCK, 1, 0);
        x.emit(0, Op.LOCK, 0, 0);
        Due.no("UNLOCK of the other lock does not free this one", x.canComplete());
        x.drop(0);
        x.emit(0, Op.LOCK, 0, 0);
        x.emit(0, Op.PUT, 1, 0);
        x.emit(1, Op.AWAIT, 0, 1);
        x.emit(1, Op.UNLOCK, 0, 0);
        x.emit(1, Op.LOCK, 0, 0);
        Due.no("UNLOCK of another thread's lock does nothing", x.canComplete());
        Due.yes("and the thread is stuck then", x.canStick());
    }

    private static void registersBelongToTheirThread() {
        InterleaveExplorer x = new InterleaveExplorer();
        for (int thread = 0; thread < 3; thread++) {
            x.emit(thread, Op.ADD, 0, 10 + thread);
            x.emit(thread, Op.ADD, 1, 20 + thread);
        }
        for (int thread = 0; thread < 3; thread++) {
            Due.is("register 0 of thread " + thread, x.leastRegister(thread, 0), 10 + thread);
            Due.is("register 1 of thread " + thread, x.leastRegister(thread, 1), 20 + thread);
        }
    }
}
