/** The numbers that tests use as wrong or far-off arguments. */
final class Ints {
    static final int MIN = Integer.MIN_VALUE;
    static final int MAX = Integer.MAX_VALUE;

    private Ints() {
    }

    /** Not in 0 to 2, the nearest on both sides first. */
    static int[] wrongThreads() {
        return new int[] {-1, 3, -2, -3, -4, 4, 5, 256, -256, 1 << 16, MIN, MIN + 1, MAX};
    }

    /** Not in 0 to 3. */
    static int[] wrongVariables() {
        return new int[] {-1, 4, -2, -3, -4, 5, 7, 256, -256, 1 << 16, MIN, MIN + 1, MAX};
    }

    /** Not in 0 to 8. */
    static int[] wrongOps() {
        return new int[] {-1, 9, -2, -8, 10, 16, 256, -256, 1 << 16, MIN, MIN + 1, MAX};
    }

    /** Ints of every size, sign and remainder. */
    static int[] any() {
        return new int[] {
            0, 1, 2, 3, 4, 5, 6, 7, 8, 255, 256, 1 << 16, (1 << 16) + 3, MAX - 1, MAX,
            -1, -2, -3, -4, -5, -6, -7, -8, -256, MIN, MIN + 1, MIN + 2, MIN + 3};
    }

    /** Numbers that differ from this one, each in few bits. */
    static int[] near(int number) {
        return new int[] {
            number + 1, number - 1, number ^ 2, number ^ 4, number ^ 256, number ^ (1 << 16), number ^ MIN, ~number};
    }

    /** What a & 1 is, told by the remainder so that a wrong mask shows. */
    static int ofTwo(int number) {
        return Math.floorMod(number, 2);
    }

    /** What b & 3 is. */
    static int ofFour(int number) {
        return Math.floorMod(number, 4);
    }
}
