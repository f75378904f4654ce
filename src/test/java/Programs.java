import java.util.LinkedHashMap;
import java.util.Map;
import java.util.function.Consumer;

/** Small programs that more than one test takes up. */
final class Programs {
    private Programs() {
    }

    /** Thread 0 and thread 1 each add 1 to variable 0, without a lock. */
    static InterleaveExplorer lostUpdate() {
        return make(Programs::emitLostUpdate);
    }

    /** The same under a lock; it fills both threads and the object. */
    static InterleaveExplorer lockedUpdate() {
        return make(Programs::emitLockedUpdate);
    }

    /** Two threads that take the two locks in opposite orders. */
    static InterleaveExplorer crossedLocks() {
        return make(Programs::emitCrossedLocks);
    }

    static InterleaveExplorer neverComplete() {
        return make(Programs::emitNeverComplete);
    }

    static InterleaveExplorer make(Consumer<InterleaveExplorer> program) {
        InterleaveExplorer x = new InterleaveExplorer();
        program.accept(x);
        return x;
    }

    /** Objects of every kind: empty, with room, full in each way, with runs that are stuck or fail. */
    static Map<String, Consumer<InterleaveExplorer>> all() {
        Map<String, Consumer<InterleaveExplorer>> all = new LinkedHashMap<>();
        all.put("a new object", x -> { });
        all.put("variables set", Programs::setVariables);
        all.put("a lost update", Programs::emitLostUpdate);
        all.put("a locked update", Programs::emitLockedUpdate);
        all.put("crossed locks", Programs::emitCrossedLocks);
        all.put("never complete", Programs::emitNeverComplete);
        all.put("sometimes failing", Programs::emitSometimesFailing);
        all.put("one thread full", x -> emitPuts(x, 0, 0, 5));
        all.put("all full with 4, 3, 3", x -> emitPuts(x, 4, 3, 3));
        return all;
    }

    /** Each thread puts 1, 2 and so on in the variable of its own number. */
    static void emitPuts(InterleaveExplorer x, int... sizes) {
        for (int thread = 0; thread < 3; thread++) {
            for (int count = 1; count <= sizes[thread]; count++) {
                x.emit(thread, Op.PUT, count, thread);
            }
        }
    }

    private static void setVariables(InterleaveExplorer x) {
        for (int variable = 0; variable < 4; variable++) {
            x.begin(variable, 10 * (variable + 1));
        }
    }

    private static void emitLostUpdate(InterleaveExplorer x) {
        for (int thread = 0; thread < 2; thread++) {
            x.emit(thread, Op.LOAD, 0, 0);
            x.emit(thread, Op.ADD, 0, 1);
            x.emit(thread, Op.STORE, 0, 0);
        }
    }

    private static void emitLockedUpdate(InterleaveExplorer x) {
        for (int thread = 0; thread < 2; thread++) {
            x.emit(thread, Op.LOCK, 0, 0);
            x.emit(thread, Op.LOAD, 0, 0);
            x.emit(thread, Op.ADD, 0, 1);
            x.emit(thread, Op.STORE, 0, 0);
            x.emit(thread, Op.UNLOCK, 0, 0);
        }
    }

    private static void emitCrossedLocks(InterleaveExplorer x) {
        for (int thread = 0; thread < 2; thread++) {
            x.emit(thread, Op.LOCK, thread, 0);
            x.emit(thread, Op.LOCK, 1 - thread, 0);
            x.emit(thread, Op.UNLOCK, 0, 0);
            x.emit(thread, Op.UNLOCK, 1, 0);
        }
    }

    private static void emitNeverComplete(InterleaveExplorer x) {
        x.emit(1, Op.AWAIT, 0, 1);
    }

    private static void emitSometimesFailing(InterleaveExplorer x) {
        x.begin(1, 3);
        x.emit(0, Op.PUT, 1, 0);
        x.emit(2, Op.LOAD, 0, 0);
        x.emit(2, Op.CHECK, 0, 1);
    }
}
