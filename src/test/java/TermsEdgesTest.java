/** The edges that the document's Terms name, a sentence at a time; THE CHECK has a test of its own. */
public final class TermsEdgesTest {
    private static final int MIN = Integer.MIN_VALUE;
    private static final int MAX = Integer.MAX_VALUE;

    /** Numbers on both sides of every multiple of 4 and 16 that lies near 0, and the ends of int. */
    private static final int[] MASKED = {MIN, MIN + 1, MIN + 2, MIN + 3, MIN + 4, MIN + 15, MIN + 16, -33, -32, -31,
        -17, -16, -15, -5, -4, -3, -2, -1, 0, 1, 2, 3, 4, 5, 7, 8, 14, 15, 16, 17, 30, 31, 32, 33, 255, 256, MAX - 16,
        MAX - 15, MAX - 4, MAX - 3, MAX - 2, MAX - 1, MAX};

    public static void main(String[] args) {
        Bench.sentence("\"at most 24 INSTRUCTIONS\"", TermsEdgesTest::atMost24);
        Bench.sentence("\"numbered from 0\"", TermsEdgesTest::numberedFrom0);
        Bench.sentence("\"arithmetic wraps\": ADD", TermsEdgesTest::addWraps);
        Bench.sentence("\"arithmetic wraps\": SUB", TermsEdgesTest::subWraps);
        Bench.sentence("\"arithmetic wraps\": MUL", TermsEdgesTest::mulWraps);
        Bench.sentence("\"puts c on the stack\"", TermsEdgesTest::pushPutsAnyInt);
        Bench.sentence("\"cell c & 3\": GET", TermsEdgesTest::getOfAnyCell);
        Bench.sentence("\"cell c & 3\": SET", TermsEdgesTest::setOfAnyCell);
        Bench.sentence("\"its cost is (c & 15) + 1\"", TermsEdgesTest::costOfCost);
        Bench.sentence("\"The COST of every instruction but COST is 1, of MUL 3\"", TermsEdgesTest::costOfOthers);
        Bench.sentence("\"goes to instruction c\"", TermsEdgesTest::jump);
        Bench.sentence("JZERO \"if it is 0\"", TermsEdgesTest::jumpIfZero);
        Bench.sentence("JPOS \"if it is above 0\"", TermsEdgesTest::jumpIfAboveZero);
        Bench.sentence("\"begins at instruction 0 with an empty stack\"", TermsEdgesTest::beginsAt0);
        Due.end();
    }

    private static void atMost24(Bench bench) {
        Gate gate = bench.gate();
        for (int number = 0; number < 23; number++) {
            gate.emit(Ops.COST, 0, number);
        }
        gate.emit(Ops.STOP, 0, 23);
        gate.emit(Ops.STOP, 0, FuelGate.FULL);
        gate.emit(Ops.COST, 0, FuelGate.FULL);
        gate.sound(true);
        gate.height(22, 0);
        gate.height(23, 0);
        gate.height(24, FuelGate.BAD_PLACE);
        gate.run(24, FuelGate.STOPPED);
        gate.stands(FuelGate.STOPPED, 0, 23);
        Gate open = bench.gate();
        open.times(24, Ops.COST, 0);
        open.emit(Ops.STOP, 0, FuelGate.FULL);
        open.sound(false);
    }

    private static void numberedFrom0(Bench bench) {
        Gate gate = bench.gate();
        gate.emit(Ops.JUMP, 2, 0);
        gate.emit(Ops.STOP, 0, 1);
        gate.emit(Ops.JUMP, 1, 2);
        gate.run(1, FuelGate.NO_FUEL);
        gate.place(2);
        gate.refuel(1, FuelGate.NO_FUEL);
        gate.place(1);
        gate.refuel(1, FuelGate.STOPPED);
        gate.place(1);
        gate.height(-1, FuelGate.BAD_PLACE);
        gate.height(0, 0);
        gate.height(2, 0);
        gate.height(3, FuelGate.BAD_PLACE);
    }

    private static void two(Bench bench, int op, int x, int y, int want) {
        Gate gate = bench.gate(Ops.PUSH, 77, Ops.PUSH, x, Ops.PUSH, y, op, 0, Ops.STOP, 0);
        gate.run(2000, FuelGate.STOPPED);
        gate.depth(2);
        gate.top(0, want);
        gate.top(1, 77);
        gate.top(2, 0);
    }

    private static void addWraps(Bench bench) {
        two(bench, Ops.ADD, MAX - 1, 1, MAX);
        two(bench, Ops.ADD, MAX, 0, MAX);
        two(bench, Ops.ADD, MAX, 1, MIN);
        two(bench, Ops.ADD, 1, MAX, MIN);
        two(bench, Ops.ADD, MAX, 2, MIN + 1);
        two(bench, Ops.ADD, MAX, MAX, -2);
        two(bench, Ops.ADD, MIN + 1, -1, MIN);
        two(bench, Ops.ADD, MIN, 0, MIN);
        two(bench, Ops.ADD, MIN, -1, MAX);
        two(bench, Ops.ADD, -1, MIN, MAX);
        two(bench, Ops.ADD, MIN, -2, MAX - 1);
        two(bench, Ops.ADD, MIN, MIN, 0);
        two(bench, Ops.ADD, MIN, MAX, -1);
        two(bench, Ops.ADD, -3, 5, 2);
    }

    private static void subWraps(Bench bench) {
        two(bench, Ops.SUB, MIN + 1, 1, MIN);
        two(bench, Ops.SUB, MIN, 0, MIN);
        two(bench, Ops.SUB, MIN, 1, MAX);
        two(bench, Ops.SUB, MIN, 2, MAX - 1);
        two(bench, Ops.SUB, MAX - 1, -1, MAX);
        two(bench, Ops.SUB, MAX, 0, MAX);
        two(bench, Ops.SUB, MAX, -1, MIN);
        two(bench, Ops.SUB, 0, MAX, MIN + 1);
        two(bench, Ops.SUB, -1, MAX, MIN);
        two(bench, Ops.SUB, -2, MAX, MAX);
        two(bench, Ops.SUB, -1, MIN, MAX);
        two(bench, Ops.SUB, 0, MIN, MIN);
        two(bench, Ops.SUB, MIN, MIN, 0);
        two(bench, Ops.SUB, MAX, MIN, -1);
        two(bench, Ops.SUB, MIN, MAX, 1);
        two(bench, Ops.SUB, 3, 5, -2);
    }

    private static void mulWraps(Bench bench) {
        two(bench, Ops.MUL, 46340, 46340, 2147395600);
        two(bench, Ops.MUL, 46341, 46341, -2147479015);
        two(bench, Ops.MUL, 46341, -46341, 2147479015);
        two(bench, Ops.MUL, 65536, 32767, 2147418112);
        two(bench, Ops.MUL, 65536, 32768, MIN);
        two(bench, Ops.MUL, 65536, -32768, MIN);
        two(bench, Ops.MUL, 65536, 65536, 0);
        two(bench, Ops.MUL, 65537, 65537, 131073);
        two(bench, Ops.MUL, MAX, 1, MAX);
        two(bench, Ops.MUL, MAX, -1, MIN + 1);
        two(bench, Ops.MUL, MAX, 2, -2);
        two(bench, Ops.MUL, MAX, MAX, 1);
        two(bench, Ops.MUL, MIN, 1, MIN);
        two(bench, Ops.MUL, MIN, -1, MIN);
        two(bench, Ops.MUL, MIN, 2, 0);
        two(bench, Ops.MUL, MIN, MIN, 0);
        two(bench, Ops.MUL, MIN, MAX, MIN);
        two(bench, Ops.MUL, MAX, 0, 0);
        two(bench, Ops.MUL, -3, 5, -15);
    }

    private static void pushPutsAnyInt(Bench bench) {
        for (int c : MASKED) {
            Gate gate = bench.gate(Ops.PUSH, c, Ops.STOP, 0);
            gate.run(2, FuelGate.STOPPED);
            gate.depth(1);
            gate.top(0, c);
        }
    }

    private static void getOfAnyCell(Bench bench) {
        for (int c : MASKED) {
            Gate gate = bench.gate(Ops.GET, c, Ops.STOP, 0);
            for (int i = 0; i < 4; i++) {
                gate.cell(i, 100 + i, 0);
            }
            gate.run(2, FuelGate.STOPPED);
            gate.depth(1);
            gate.top(0, 100 + Math.floorMod(c, 4));
            gate.cells(100, 101, 102, 103);
        }
    }

    private static void setOfAnyCell(Bench bench) {
        for (int c : MASKED) {
            Gate gate = bench.gate(Ops.PUSH, MIN, Ops.PUSH, MAX, Ops.SET, c, Ops.STOP, 0);
            for (int i = 0; i < 4; i++) {
                gate.cell(i, 100 + i, 0);
            }
            gate.run(4, FuelGate.STOPPED);
            gate.depth(1);
            gate.top(0, MIN);
            for (int i = 0; i < 4; i++) {
                gate.get(i, i == Math.floorMod(c, 4) ? MAX : 100 + i);
            }
        }
    }

    private static void costOfCost(Bench bench) {
        for (int c : MASKED) {
            int cost = Math.floorMod(c, 16) + 1;
            Gate gate = bench.gate(Ops.PUSH, 3, Ops.COST, c, Ops.STOP, 0);
            gate.run(1 + cost - 1, FuelGate.NO_FUEL);
            gate.stands(FuelGate.NO_FUEL, cost - 1, 1, 3);
            gate.run(1 + cost, FuelGate.NO_FUEL);
            gate.stands(FuelGate.NO_FUEL, 0, 2, 3);
            gate.run(1 + cost + 1, FuelGate.STOPPED);
            gate.stands(FuelGate.STOPPED, 0, 2, 3);
        }
    }

    private static void costOfOthers(Bench bench) {
        int[] numbers = {MIN, -1, 0, 3, 15, 16, MAX};
        for (int op = Ops.PUSH; op <= Ops.STOP; op++) {
            for (int number : numbers) {
                boolean jumps = op == Ops.JUMP || op == Ops.JZERO || op == Ops.JPOS;
                costOfOne(bench, op, jumps ? 3 : number);
            }
        }
    }

    private static void costOfOne(Bench bench, int op, int c) {
        int cost = op == Ops.MUL ? 3 : 1;
        Gate gate = bench.gate(Ops.PUSH, 5, Ops.PUSH, 3, op, c, Ops.STOP, 0);
        gate.run(2 + cost - 1, FuelGate.NO_FUEL);
        gate.stands(FuelGate.NO_FUEL, cost - 1, 2, 3, 5);
        gate.run(2 + cost, op == Ops.STOP ? FuelGate.STOPPED : FuelGate.NO_FUEL);
        gate.place(op == Ops.STOP ? 2 : 3);
        gate.fuel(0);
        gate.run(2 + cost + 1, FuelGate.STOPPED);
        gate.place(op == Ops.STOP ? 2 : 3);
        gate.fuel(op == Ops.STOP ? 1 : 0);
    }

    private static void jump(Bench bench) {
        Gate onItself = bench.gate(Ops.JUMP, 0);
        onItself.run(2000, FuelGate.NO_FUEL);
        onItself.stands(FuelGate.NO_FUEL, 0, 0);
        Gate toTheNext = bench.gate(Ops.PUSH, 0, Ops.JUMP, 2, Ops.STOP, 0);
        toTheNext.run(3, FuelGate.STOPPED);
        toTheNext.stands(FuelGate.STOPPED, 0, 2, 0);
        Gate toTheLast = bench.gate(Ops.JUMP, 23);
        toTheLast.times(23, Ops.STOP, 0);
        toTheLast.run(2, FuelGate.STOPPED);
        toTheLast.stands(FuelGate.STOPPED, 0, 23);
        Gate backTo0 = bench.gate();
        backTo0.times(23, Ops.COST, 0);
        backTo0.program(Ops.JUMP, 0);
        backTo0.run(24, FuelGate.NO_FUEL);
        backTo0.stands(FuelGate.NO_FUEL, 0, 0);
        backTo0.refuel(23, FuelGate.NO_FUEL);
        backTo0.stands(FuelGate.NO_FUEL, 0, 23);
    }

    /** The jump goes ahead in one program and back in the other. */
    private static void jumpOn(Bench bench, int op, int value, boolean goes) {
        Gate ahead = bench.gate(Ops.PUSH, 9, Ops.PUSH, value, op, 4, Ops.STOP, 0, Ops.STOP, 0);
        ahead.run(4, FuelGate.STOPPED);
        ahead.stands(FuelGate.STOPPED, 0, goes ? 4 : 3, 9);
        Gate back = bench.gate(Ops.JUMP, 2, Ops.STOP, 0, Ops.PUSH, value, op, 1, Ops.STOP, 0);
        back.run(4, FuelGate.STOPPED);
        back.stands(FuelGate.STOPPED, 0, goes ? 1 : 4);
    }

    private static void jumpIfZero(Bench bench) {
        int[] others = {MIN, MIN + 1, -65536, -256, -2, -1, 1, 2, 256, 65536, MAX - 1, MAX};
        jumpOn(bench, Ops.JZERO, 0, true);
        for (int value : others) {
            jumpOn(bench, Ops.JZERO, value, false);
        }
    }

    private static void jumpIfAboveZero(Bench bench) {
        int[] above = {1, 2, 256, 65536, MAX - 1, MAX};
        int[] others = {MIN, MIN + 1, -65536, -256, -2, -1, 0};
        for (int value : above) {
            jumpOn(bench, Ops.JPOS, value, true);
        }
        for (int value : others) {
            jumpOn(bench, Ops.JPOS, value, false);
        }
    }

    private static void beginsAt0(Bench bench) {
        Gate gate = bench.gate(Ops.PUSH, 4, Ops.PUSH, 5, Ops.STOP, 0);
        gate.run(0, FuelGate.NO_FUEL);
        gate.stands(FuelGate.NO_FUEL, 0, 0);
        gate.run(2, FuelGate.NO_FUEL);
        gate.stands(FuelGate.NO_FUEL, 0, 2, 5, 4);
        gate.run(0, FuelGate.NO_FUEL);
        gate.stands(FuelGate.NO_FUEL, 0, 0);
        gate.run(3, FuelGate.STOPPED);
        gate.stands(FuelGate.STOPPED, 0, 2, 5, 4);
        gate.run(1, FuelGate.NO_FUEL);
        gate.stands(FuelGate.NO_FUEL, 0, 1, 4);
    }
}
