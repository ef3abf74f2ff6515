/** The instructions' numbers as the document's Terms give them, and a short way to put a program together. */
final class Ops {
    static final int PUSH = 0;
    static final int POP = 1;
    static final int DUP = 2;
    static final int ADD = 3;
    static final int SUB = 4;
    static final int MUL = 5;
    static final int SWAP = 6;
    static final int OVER = 7;
    static final int JUMP = 8;
    static final int JZERO = 9;
    static final int JPOS = 10;
    static final int GET = 11;
    static final int SET = 12;
    static final int STOP = 13;
    static final int COST = 14;

    private Ops() {
    }

    /** A new object with these instructions: op, c, op, c and so on. */
    static FuelGate program(int... opsAndNumbers) {
        FuelGate gate = new FuelGate();
        append(gate, opsAndNumbers);
        return gate;
    }

    static void append(FuelGate gate, int... opsAndNumbers) {
        for (int k = 0; k + 1 < opsAndNumbers.length; k += 2) {
            gate.emit(opsAndNumbers[k], opsAndNumbers[k + 1]);
        }
    }
}
