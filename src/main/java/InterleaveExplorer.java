public final class InterleaveExplorer {
    public static final int BAD_THREAD = -1;
    public static final int BAD_OP = -2;
    public static final int FULL = -3;
    public static final int BAD_VARIABLE = -4;
    public static final int NONE = -2147483647;

    private static final int LOAD = 0;
    private static final int STORE = 1;
    private static final int ADD = 2;
    private static final int PUT = 3;
    private static final int LOCK = 4;
    private static final int UNLOCK = 5;
    private static final int CHECK = 6;
    private static final int SWAP = 7;
    private static final int AWAIT = 8;

    private static final int THREADS = 3;
    private static final int VARIABLES = 4;
    private static final int MOST_OF_A_THREAD = 5;
    private static final int MOST_OF_ALL = 10;
    private static final int PLACES = 15;

    // A state is one row: four variables, two registers for each thread, two locks
    // (0 free, else the holder's number plus 1), and how far each thread has come.
    // Variables and registers come first, since they are what an end keeps.
    private static final int REGISTERS_AT = 4;
    private static final int LOCKS_AT = 10;
    private static final int PROGRESS_AT = 12;
    private static final int STATE_SIZE = 15;

    // One state for each number of instructions carried out, 0 to 10.
    private static final int LEVELS = 11;
    private static final int STATES_LENGTH = 165;

    // Ten instructions, at most five in a thread, have the most orders when split 4, 3, 3:
    // 10! / (4! 3! 3!) = 4200.
    private static final int MOST_ENDS = 4200;
    private static final int END_SIZE = 10;
    private static final int ENDS_LENGTH = 42000;

    // The tree of choices has at most (3^11 - 1) / 2 = 88573 states, and each takes four
    // steps: one for each thread and one to go back.
    private static final int MOST_STEPS = 1000000;

    private final int[] ops = new int[PLACES];
    private final int[] firsts = new int[PLACES];
    private final int[] seconds = new int[PLACES];
    private final int[] counts = new int[THREADS];
    private final int[] beginnings = new int[VARIABLES];

    private final int[] states = new int[STATES_LENGTH];
    private final int[] nextChoice = new int[LEVELS];
    private final boolean[] wentOn = new boolean[LEVELS];

    // What the last exploration found; it holds until an instruction or a beginning changes.
    private boolean explored = false;
    private boolean stuck = false;
    private final boolean[] failed = new boolean[THREADS];
    private final int[] ends = new int[ENDS_LENGTH];
    private int endCount = 0;

    // All that a new object needs is the zeros that its arrays are made with.
    public InterleaveExplorer() {
    }

    public int emit(int thread, int op, int a, int b) {
        if (!isThread(thread)) {
            return BAD_THREAD;
        }
        if (op < LOAD || op > AWAIT) {
            return BAD_OP;
        }
        if (counts[thread] >= MOST_OF_A_THREAD || countOfAll() >= MOST_OF_ALL) {
            return FULL;
        }
        int place = thread * MOST_OF_A_THREAD + counts[thread];
        ops[place] = op;
        firsts[place] = a;
        seconds[place] = b;
        counts[thread]++;
        explored = false;
        return counts[thread];
    }

    public int begin(int variable, int value) {
        if (!isVariable(variable)) {
            return BAD_VARIABLE;
        }
        int old = beginnings[variable];
        beginnings[variable] = value;
        explored = false;
        return old;
    }

    public int drop(int thread) {
        if (!isThread(thread)) {
            return BAD_THREAD;
        }
        int had = counts[thread];
        counts[thread] = 0;
        explored = false;
        return had;
    }

    public boolean canComplete() {
        explore();
        return endCount > 0;
    }

    public boolean canStick() {
        explore();
        return stuck;
    }

    public boolean canFail(int thread) {
        if (!isThread(thread)) {
            return false;
        }
        explore();
        return failed[thread];
    }

    public boolean canEnd(int variable, int value) {
        return someEndHas(variable, value, variable, value);
    }

    public boolean canEndBoth(int v, int x, int w, int y) {
        return someEndHas(v, x, w, y);
    }

    public int least(int variable) {
        if (!isVariable(variable)) {
            return BAD_VARIABLE;
        }
        explore();
        return leastInColumn(variable);
    }

    public int greatest(int variable) {
        if (!isVariable(variable)) {
            return BAD_VARIABLE;
        }
        explore();
        return greatestInColumn(variable);
    }

    public int leastRegister(int thread, int r) {
        if (!isThread(thread)) {
            return BAD_THREAD;
        }
        explore();
        return leastInColumn(REGISTERS_AT + thread * 2 + (r & 1));
    }

    public boolean settled() {
        explore();
        if (stuck || failed[0] || failed[1] || failed[2]) {
            return false;
        }
        for (int variable = 0; variable < VARIABLES; variable++) {
            if (leastInColumn(variable) != greatestInColumn(variable)) {
                return false;
            }
        }
        return true;
    }

    private boolean isThread(int thread) {
        return thread >= 0 && thread < THREADS;
    }

    private boolean isVariable(int variable) {
        return variable >= 0 && variable < VARIABLES;
    }

    private int countOfAll() {
        return counts[0] + counts[1] + counts[2];
    }

    private boolean someEndHas(int v, int x, int w, int y) {
        if (!isVariable(v) || !isVariable(w)) {
            return false;
        }
        explore();
        for (int end = 0; end < endCount; end++) {
            int row = end * END_SIZE;
            if (ends[row + v] == x && ends[row + w] == y) {
                return true;
            }
        }
        return false;
    }

    // The first end is the measure to begin with, since every int, NONE too, can be a value.
    private int leastInColumn(int column) {
        if (endCount == 0) {
            return NONE;
        }
        int found = ends[column];
        for (int end = 1; end < endCount; end++) {
            int value = ends[end * END_SIZE + column];
            if (value < found) {
                found = value;
            }
        }
        return found;
    }

    private int greatestInColumn(int column) {
        if (endCount == 0) {
            return NONE;
        }
        int found = ends[column];
        for (int end = 1; end < endCount; end++) {
            int value = ends[end * END_SIZE + column];
            if (value > found) {
                found = value;
            }
        }
        return found;
    }

    // Goes through the tree of choices depth first. The level is the number of instructions
    // carried out, so it never passes the last one.
    private void explore() {
        if (explored) {
            return;
        }
        forgetFindings();
        layOutBeginning();
        int level = 0;
        for (int step = 0; step < MOST_STEPS && level >= 0; step++) {
            int thread = nextChoice[level];
            if (thread < THREADS) {
                nextChoice[level]++;
                if (takesTurn(level, thread)) {
                    level++;
                    openLevel(level);
                }
            } else {
                if (!wentOn[level]) {
                    noteEnd(level);
                }
                level--;
            }
        }
        explored = true;
    }

    private void forgetFindings() {
        stuck = false;
        endCount = 0;
        for (int thread = 0; thread < THREADS; thread++) {
            failed[thread] = false;
        }
    }

    private void layOutBeginning() {
        for (int slot = 0; slot < STATE_SIZE; slot++) {
            states[slot] = 0;
        }
        for (int variable = 0; variable < VARIABLES; variable++) {
            states[variable] = beginnings[variable];
        }
        openLevel(0);
    }

    private void openLevel(int level) {
        nextChoice[level] = 0;
        wentOn[level] = false;
    }

    // Answers whether the run goes on, with its new state laid out one level deeper.
    private boolean takesTurn(int level, int thread) {
        int row = level * STATE_SIZE;
        int progress = states[row + PROGRESS_AT + thread];
        if (progress >= counts[thread]) {
            return false;
        }
        int place = thread * MOST_OF_A_THREAD + progress;
        if (!canBeCarriedOut(row, place)) {
            return false;
        }
        wentOn[level] = true;
        if (fails(row, thread, place)) {
            failed[thread] = true;
            return false;
        }
        int next = row + STATE_SIZE;
        for (int slot = 0; slot < STATE_SIZE; slot++) {
            states[next + slot] = states[row + slot];
        }
        states[next + PROGRESS_AT + thread]++;
        carryOut(next, thread, place);
        return true;
    }

    private boolean canBeCarriedOut(int row, int place) {
        if (ops[place] == LOCK) {
            return states[row + LOCKS_AT + (firsts[place] & 1)] == 0;
        }
        if (ops[place] == AWAIT) {
            return states[row + (firsts[place] & 3)] == seconds[place];
        }
        return true;
    }

    private boolean fails(int row, int thread, int place) {
        int register = row + REGISTERS_AT + thread * 2 + (firsts[place] & 1);
        return ops[place] == CHECK && states[register] != seconds[place];
    }

    private void carryOut(int row, int thread, int place) {
        int register = row + REGISTERS_AT + thread * 2 + (firsts[place] & 1);
        int variable = row + (seconds[place] & 3);
        int lock = row + LOCKS_AT + (firsts[place] & 1);
        switch (ops[place]) {
            case LOAD:
                states[register] = states[variable];
                break;
            case STORE:
                states[variable] = states[register];
                break;
            case ADD:
                states[register] += seconds[place];
                break;
            case PUT:
                states[variable] = firsts[place];
                break;
            case LOCK:
                states[lock] = thread + 1;
                break;
            case UNLOCK:
                if (states[lock] == thread + 1) {
                    states[lock] = 0;
                }
                break;
            case SWAP:
                int held = states[register];
                states[register] = states[variable];
                states[variable] = held;
                break;
            default:
                // A CHECK that holds and an AWAIT change nothing.
                break;
        }
    }

    private void noteEnd(int level) {
        if (level < countOfAll()) {
            stuck = true;
            return;
        }
        // There are never more; looked at so that no index can leave the array.
        if (endCount >= MOST_ENDS) {
            return;
        }
        int end = endCount * END_SIZE;
        int row = level * STATE_SIZE;
        for (int column = 0; column < END_SIZE; column++) {
            ends[end + column] = states[row + column];
        }
        endCount++;
    }
}
