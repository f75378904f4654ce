/** The numbers of the instructions, by the document's names. */
final class Op {
    static final int LOAD = 0;
    static final int STORE = 1;
    static final int ADD = 2;
    static final int PUT = 3;
    static final int LOCK = 4;
    static final int UNLOCK = 5;
    static final int CHECK = 6;
    static final int SWAP = 7;
    static final int AWAIT = 8;

    private Op() {
    }
}
