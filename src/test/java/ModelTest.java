import java.util.ArrayList;
import java.util.List;

/**
 * Compares the class with a plain model over many runs of calls. The model takes each order of
 * threads from the beginning to its end; the calls come from a fixed sequence of numbers.
 */
public final class ModelTest {
    private static final int OBJECTS = 400;
    private static final int ROUNDS = 12;
    private static final int[] WRONG = {-1, 3, 4, 5, 9, Integer.MIN_VALUE, Integer.MAX_VALUE};
    private static final int[] EXTREMES = {
        Integer.MIN_VALUE, Integer.MIN_VALUE + 1, Integer.MAX_VALUE, -1, -4, 1 << 16};

    private static long seed = 20261115L;

    public static void main(String[] args) {
        for (int object = 0; object < OBJECTS; object++) {
            compareOne("object " + object + ": ", object % 4);
        }
        Due.end();
    }

    private static int below(int bound) {
        seed = seed * 6364136223846793005L + 1442695040888963407L;
        return (int) ((seed >>> 33) % bound);
    }

    private static int value() {
        return below(12) == 0 ? EXTREMES[below(EXTREMES.length)] : below(4);
    }

    private static int sometimesWrong(int bound) {
        return below(25) == 0 ? WRONG[below(WRONG.length)] : below(bound);
    }

    /** Style 0 takes every op alike, 1 more locks, 2 more AWAITs, 3 no op that can stop a run. */
    private static int op(int style) {
        if (style == 1 && below(2) == 0) {
            return Op.LOCK + below(2);
        }
        if (style == 2 && below(3) == 0) {
            return Op.AWAIT;
        }
        if (style == 3) {
            int[] free = {Op.LOAD, Op.STORE, Op.ADD, Op.PUT, Op.SWAP};
            return free[below(free.length)];
        }
        return below(9);
    }

    private static void compareOne(String where, int style) {
        InterleaveExplorer x = new InterleaveExplorer();
        Model model = new Model();
        for (int round = 0; round < ROUNDS; round++) {
            int changes = round == 0 ? 9 : 1 + below(3);
            for (int change = 0; change < changes; change++) {
                change(where, x, model, style);
            }
            model.explore();
            ask(where, x, model);
        }
    }

    private static void change(String where, InterleaveExplorer x, Model model, int style) {
        int kind = below(12);
        if (kind == 0) {
            int thread = sometimesWrong(3);
            Due.is(where + "drop(" + thread + ")", x.drop(thread), model.drop(thread));
        } else if (kind <= 2) {
            int variable = sometimesWrong(4);
            int value = value();
            Due.is(where + "begin(" + variable + ", " + value + ")",
                    x.begin(variable, value), model.begin(variable, value));
        } else {
            int thread = sometimesWrong(3);
            int op = below(25) == 0 ? WRONG[below(WRONG.length)] : op(style);
            int a = value();
            int b = value();
            Due.is(where + "emit(" + thread + ", " + op + ", " + a + ", " + b + ")",
                    x.emit(thread, op, a, b), model.emit(thread, op, a, b));
        }
    }

    private static void ask(String where, InterleaveExplorer x, Model model) {
        Due.is(where + "canComplete()", x.canComplete(), !model.ends.isEmpty());
        Due.is(where + "canStick()", x.canStick(), model.stuck);
        Due.is(where + "settled()", x.settled(), model.settled());
        for (int thread = -1; thread <= 3; thread++) {
            boolean right = thread >= 0 && thread < 3;
            Due.is(where + "canFail(" + thread + ")", x.canFail(thread), right && model.failed[thread]);
            int r = below(9) - 4;
            Due.is(where + "leastRegister(" + thread + ", " + r + ")", x.leastRegister(thread, r),
                    right ? model.extreme(4 + 2 * thread + (r & 1), false) : -1);
        }
        for (int variable = -1; variable <= 4; variable++) {
            boolean right = variable >= 0 && variable < 4;
            int value = value();
            Due.is(where + "least(" + variable + ")", x.least(variable),
                    right ? model.extreme(variable, false) : -4);
            Due.is(where + "greatest(" + variable + ")", x.greatest(variable),
                    right ? model.extreme(variable, true) : -4);
            Due.is(where + "canEnd(" + variable + ", " + value + ")", x.canEnd(variable, value),
                    right && model.hasEnd(variable, value, variable, value));
            int other = below(4);
            int otherValue = value();
            Due.is(where + "canEndBoth(" + variable + ", " + value + ", " + other + ", " + otherValue + ")",
                    x.canEndBoth(variable, value, other, otherValue),
                    right && model.hasEnd(variable, value, other, otherValue));
        }
    }

    private static final class Model {
        private final List<List<int[]>> threads = List.of(new ArrayList<>(), new ArrayList<>(), new ArrayList<>());
        private final int[] beginning = new int[4];
        private final List<int[]> ends = new ArrayList<>();
        private boolean[] failed = new boolean[3];
        private boolean stuck = false;

        int size() {
            return threads.stream().mapToInt(List::size).sum();
        }

        int emit(int thread, int op, int a, int b) {
            if (thread < 0 || thread > 2) {
                return -1;
            }
            if (op < 0 || op > 8) {
                return -2;
            }
            if (threads.get(thread).size() == 5 || size() == 10) {
                return -3;
            }
            threads.get(thread).add(new int[] {op, a, b});
            return threads.get(thread).size();
        }

        int begin(int variable, int value) {
            if (variable < 0 || variable > 3) {
                return -4;
            }
            int old = beginning[variable];
            beginning[variable] = value;
            return old;
        }

        int drop(int thread) {
            if (thread < 0 || thread > 2) {
                return -1;
            }
            int had = threads.get(thread).size();
            threads.get(thread).clear();
            return had;
        }

        void explore() {
            ends.clear();
            failed = new boolean[3];
            stuck = false;
            go(new Run(beginning));
        }

        private void go(Run run) {
            boolean finished = true;
            boolean any = false;
            for (int thread = 0; thread < 3; thread++) {
                if (run.done[thread] == threads.get(thread).size()) {
                    continue;
                }
                finished = false;
                int[] instruction = threads.get(thread).get(run.done[thread]);
                if (!run.allows(instruction)) {
                    continue;
                }
                any = true;
                Run next = new Run(run);
                if (next.carryOut(thread, instruction)) {
                    go(next);
                } else {
                    failed[thread] = true;
                }
            }
            if (finished) {
                ends.add(run.end());
            } else if (!any) {
                stuck = true;
            }
        }

        int extreme(int column, boolean greatest) {
            var values = ends.stream().mapToInt(end -> end[column]);
            return (greatest ? values.max() : values.min()).orElse(-2147483647);
        }

        boolean hasEnd(int v, int x, int w, int y) {
            return ends.stream().anyMatch(end -> end[v] == x && end[w] == y);
        }

        boolean settled() {
            if (stuck || failed[0] || failed[1] || failed[2]) {
                return false;
            }
            int[] first = ends.get(0);
            return ends.stream().allMatch(end -> end[0] == first[0] && end[1] == first[1]
                    && end[2] == first[2] && end[3] == first[3]);
        }
    }

    private static final class Run {
        private final int[] variables;
        private final int[][] registers;
        private final int[] holders;
        private final int[] done;

        Run(int[] beginning) {
            variables = beginning.clone();
            registers = new int[3][2];
            holders = new int[] {-1, -1};
            done = new int[3];
        }

        Run(Run other) {
            variables = other.variables.clone();
            registers = new int[][] {
                other.registers[0].clone(), other.registers[1].clone(), other.registers[2].clone()};
            holders = other.holders.clone();
            done = other.done.clone();
        }

        boolean allows(int[] instruction) {
            return switch (instruction[0]) {
                case Op.LOCK -> holders[instruction[1] & 1] == -1;
                case Op.AWAIT -> variables[instruction[1] & 3] == instruction[2];
                default -> true;
            };
        }

        /** Answers false if the run fails. */
        boolean carryOut(int thread, int[] instruction) {
            int a = instruction[1];
            int b = instruction[2];
            int[] own = registers[thread];
            done[thread]++;
            switch (instruction[0]) {
                case Op.LOAD -> own[a & 1] = variables[b & 3];
                case Op.STORE -> variables[b & 3] = own[a & 1];
                case Op.ADD -> own[a & 1] += b;
                case Op.PUT -> variables[b & 3] = a;
                case Op.LOCK -> holders[a & 1] = thread;
                case Op.UNLOCK -> holders[a & 1] = holders[a & 1] == thread ? -1 : holders[a & 1];
                case Op.SWAP -> {
                    int value = own[a & 1];
                    own[a & 1] = variables[b & 3];
                    variables[b & 3] = value;
                }
                case Op.CHECK -> {
                    return own[a & 1] == b;
                }
                default -> {
                }
            }
            return true;
        }

        int[] end() {
            return new int[] {
                variables[0], variables[1], variables[2], variables[3], registers[0][0], registers[0][1],
                registers[1][0], registers[1][1], registers[2][0], registers[2][1]};
        }
    }
}
