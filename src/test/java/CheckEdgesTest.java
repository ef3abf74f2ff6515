/** The edges that THE CHECK in the document's Terms names, a sentence at a time. */
public final class CheckEdgesTest {
    private static final int MIN = Integer.MIN_VALUE;
    private static final int MAX = Integer.MAX_VALUE;

    /** What each instruction takes or looks at, and how much higher the stack is behind it. */
    private static final int[] NEEDS = {0, 1, 1, 2, 2, 2, 2, 2, 0, 1, 1, 0, 1, 0, 0};
    private static final int[] GROWS = {1, -1, 1, -1, -1, -1, 0, 1, 0, -1, -1, 1, -1, 0, 0};

    public static void main(String[] args) {
        Bench.sentence("\"instruction 0 has height 0\"", CheckEdgesTest::instruction0);
        Bench.sentence("\"at least what it takes or looks at\"", CheckEdgesTest::leastHeights);
        Bench.sentence("\"behind it the height is at most 8\"", CheckEdgesTest::mostHeights);
        Bench.sentence("\"behind it the height is at most 8\", of reached ones", CheckEdgesTest::mostHeightsOfReached);
        Bench.sentence("a run at height 8", CheckEdgesTest::runAtHeight8);
        Bench.sentence("\"each instruction that comes next exists\", c", CheckEdgesTest::numberExists);
        Bench.sentence("\"each instruction that comes next exists\", the next", CheckEdgesTest::nextExists);
        Bench.sentence("\"both ways are taken to be possible\"", CheckEdgesTest::bothWays);
        Bench.sentence("\"has just the height that comes of it\"", CheckEdgesTest::justTheHeight);
        Bench.sentence("\"has just the height that comes of it\", loops", CheckEdgesTest::justTheHeightInLoops);
        Bench.sentence("\"REACHED are\", by every way", CheckEdgesTest::reachedByEveryWay);
        Bench.sentence("\"REACHED are\", and no others", CheckEdgesTest::notReached);
        Bench.sentence("\"REACHED are\", through long chains", CheckEdgesTest::reachedThroughChains);
        Bench.sentence("\"the last instruction must be JUMP or STOP\"", CheckEdgesTest::lastInstruction);
        Bench.sentence("\"a program without instructions is not sound\"", CheckEdgesTest::noInstructions);
        Due.end();
    }

    private static boolean jumps(int op) {
        return op == Ops.JUMP || op == Ops.JZERO || op == Ops.JPOS;
    }

    private static void notSound(Gate gate) {
        gate.sound(false);
        for (int p = 0; p < 24; p++) {
            gate.height(p, FuelGate.BAD_PLACE);
        }
        gate.run(2000, FuelGate.NOT_SOUND);
        gate.state(FuelGate.NONE);
    }

    private static void sound(Gate gate, boolean want) {
        if (want) {
            gate.sound(true);
            gate.height(0, 0);
        } else {
            notSound(gate);
        }
    }

    private static void instruction0(Bench bench) {
        Gate alone = bench.gate(Ops.STOP, 0);
        alone.sound(true);
        alone.height(0, 0);
        for (int op = Ops.PUSH; op <= Ops.COST; op++) {
            Gate first = bench.gate(op, jumps(op) ? 1 : 0, Ops.STOP, 0);
            sound(first, NEEDS[op] == 0);
        }
        sound(bench.gate(Ops.PUSH, 0, Ops.POP, 0, Ops.JUMP, 0), true);
        sound(bench.gate(Ops.PUSH, 0, Ops.JUMP, 0), false);
        sound(bench.gate(Ops.PUSH, 0, Ops.JZERO, 0, Ops.STOP, 0), true);
        sound(bench.gate(Ops.PUSH, 0, Ops.DUP, 0, Ops.JZERO, 0, Ops.STOP, 0), false);
        sound(bench.gate(Ops.PUSH, 0, Ops.JPOS, 0, Ops.STOP, 0), true);
        sound(bench.gate(Ops.PUSH, 0, Ops.DUP, 0, Ops.JPOS, 0, Ops.STOP, 0), false);
    }

    /** So many PUSHes, then the instruction, then STOP; a jump goes to the STOP. */
    private static Gate behindPushes(Bench bench, int pushes, int op) {
        Gate gate = bench.gate();
        gate.times(pushes, Ops.PUSH, 1);
        gate.program(op, jumps(op) ? pushes + 1 : 0, Ops.STOP, 0);
        return gate;
    }

    private static void leastHeights(Bench bench) {
        for (int op = Ops.PUSH; op <= Ops.COST; op++) {
            for (int height = 0; height <= 3; height++) {
                Gate gate = behindPushes(bench, height, op);
                if (height < NEEDS[op]) {
                    notSound(gate);
                } else {
                    gate.sound(true);
                    gate.height(height, height);
                    gate.height(height + 1, op == Ops.STOP ? FuelGate.BAD_PLACE : height + GROWS[op]);
                }
            }
        }
    }

    private static void mostHeights(Bench bench) {
        for (int op = Ops.PUSH; op <= Ops.COST; op++) {
            for (int height = 6; height <= 9; height++) {
                Gate gate = behindPushes(bench, height, op);
                if (height > 8 || height + GROWS[op] > 8) {
                    notSound(gate);
                } else {
                    gate.sound(true);
                    gate.height(height, height);
                    gate.height(height + 1, op == Ops.STOP ? FuelGate.BAD_PLACE : height + GROWS[op]);
                }
            }
        }
    }

    private static void mostHeightsOfReached(Bench bench) {
        int[] growing = {Ops.PUSH, Ops.DUP, Ops.OVER, Ops.GET};
        for (int op : growing) {
            Gate unreached = bench.gate();
            unreached.times(8, Ops.PUSH, 1);
            unreached.program(Ops.STOP, 0, op, 0, Ops.STOP, 0);
            unreached.sound(true);
            unreached.height(8, 8);
            unreached.height(9, FuelGate.BAD_PLACE);
            Gate reached = bench.gate();
            reached.times(8, Ops.PUSH, 1);
            reached.program(Ops.JUMP, 10, Ops.STOP, 0, op, 0, Ops.STOP, 0);
            notSound(reached);
            Gate lower = bench.gate();
            lower.times(8, Ops.PUSH, 1);
            lower.program(Ops.POP, 0, op, 0, Ops.POP, 0, op, 0, Ops.STOP, 0);
            lower.sound(true);
            lower.height(12, 8);
        }
    }

    private static void runAtHeight8(Bench bench) {
        Gate gate = bench.gate(Ops.PUSH, 1, Ops.PUSH, 2, Ops.PUSH, MIN, Ops.PUSH, 4, Ops.PUSH, 5, Ops.PUSH, MAX);
        gate.program(Ops.OVER, 0, Ops.DUP, 0, Ops.SWAP, 0, Ops.COST, 0, Ops.SUB, 0, Ops.GET, 3, Ops.STOP, 0);
        gate.cell(3, -7, 0);
        gate.run(8, FuelGate.NO_FUEL);
        gate.stands(FuelGate.NO_FUEL, 0, 8, 5, 5, MAX, 5, 4, MIN, 2, 1);
        gate.refuel(3, FuelGate.NO_FUEL);
        gate.stands(FuelGate.NO_FUEL, 0, 11, 0, MAX, 5, 4, MIN, 2, 1);
        gate.refuel(2, FuelGate.STOPPED);
        gate.stands(FuelGate.STOPPED, 0, 12, -7, 0, MAX, 5, 4, MIN, 2, 1);
    }

    private static void numberExists(Bench bench) {
        int[] outside = {MIN, MIN + 2, -65534, -254, -24, -3, -2, -1, 4, 5, 23, 24, 25, 258, 65538, MAX - 1, MAX};
        for (int c : outside) {
            notSound(bench.gate(Ops.PUSH, 0, Ops.JUMP, c, Ops.STOP, 0, Ops.STOP, 0));
            notSound(bench.gate(Ops.PUSH, 0, Ops.JZERO, c, Ops.STOP, 0, Ops.STOP, 0));
            notSound(bench.gate(Ops.PUSH, 0, Ops.JPOS, c, Ops.STOP, 0, Ops.STOP, 0));
        }
        for (int c = 2; c <= 3; c++) {
            sound(bench.gate(Ops.PUSH, 0, Ops.JUMP, c, Ops.STOP, 0, Ops.STOP, 0), true);
            sound(bench.gate(Ops.PUSH, 0, Ops.JZERO, c, Ops.STOP, 0, Ops.STOP, 0), true);
            sound(bench.gate(Ops.PUSH, 0, Ops.JPOS, c, Ops.STOP, 0, Ops.STOP, 0), true);
        }
        sound(bench.gate(Ops.JUMP, 0), true);
        sound(bench.gate(Ops.JUMP, 1), false);
        sound(bench.gate(Ops.JUMP, -1), false);
        for (int c = 22; c <= 25; c++) {
            Gate full = bench.gate(Ops.JUMP, c);
            full.times(23, Ops.STOP, 0);
            sound(full, c <= 23);
        }
        Gate later = bench.gate(Ops.JUMP, 2, Ops.STOP, 0);
        notSound(later);
        later.program(Ops.STOP, 0);
        sound(later, true);
        later.clear();
        later.program(Ops.JUMP, 2, Ops.STOP, 0);
        notSound(later);
    }

    private static void nextExists(Bench bench) {
        for (int length = 3; length <= 24; length += 21) {
            for (int op = Ops.PUSH; op <= Ops.COST; op++) {
                Gate gate = bench.gate(Ops.PUSH, 1, Ops.PUSH, 1);
                gate.times(length - 3, Ops.COST, 0);
                gate.program(op, op == Ops.JUMP ? length - 1 : 1);
                sound(gate, op == Ops.JUMP || op == Ops.STOP);
            }
        }
        Gate dropped = bench.gate(Ops.COST, 0, Ops.STOP, 0);
        dropped.clear();
        dropped.program(Ops.COST, 0);
        notSound(dropped);
    }

    /** The run would never go the way that is wrong. */
    private static void bothWays(Bench bench) {
        notSound(bench.gate(Ops.PUSH, 1, Ops.JZERO, 3, Ops.STOP, 0, Ops.POP, 0, Ops.STOP, 0));
        notSound(bench.gate(Ops.PUSH, 0, Ops.JZERO, 4, Ops.POP, 0, Ops.STOP, 0, Ops.STOP, 0));
        notSound(bench.gate(Ops.PUSH, 0, Ops.JPOS, 3, Ops.STOP, 0, Ops.POP, 0, Ops.STOP, 0));
        notSound(bench.gate(Ops.PUSH, 1, Ops.JPOS, 4, Ops.POP, 0, Ops.STOP, 0, Ops.STOP, 0));
        notSound(bench.gate(Ops.PUSH, 1, Ops.JZERO, 3, Ops.STOP, 0));
        notSound(bench.gate(Ops.PUSH, 0, Ops.JPOS, 3, Ops.STOP, 0));
        notSound(bench.gate(Ops.JUMP, 2, Ops.STOP, 0, Ops.PUSH, 0, Ops.JZERO, 1));
        notSound(bench.gate(Ops.JUMP, 2, Ops.STOP, 0, Ops.PUSH, 1, Ops.JPOS, 1));
        int[] ops = {Ops.JZERO, Ops.JPOS};
        for (int op : ops) {
            for (int value = -1; value <= 1; value++) {
                Gate gate = bench.gate(Ops.PUSH, 7, Ops.PUSH, value, op, 4, Ops.STOP, 0, Ops.STOP, 0);
                gate.sound(true);
                gate.height(3, 1);
                gate.height(4, 1);
            }
        }
    }

    /** Two ways to one STOP, with so many PUSHes on the one and on the other. */
    private static void twoWays(Bench bench, int op, int one, int other) {
        Gate gate = bench.gate(Ops.PUSH, 0, op, 3 + one);
        gate.times(one, Ops.PUSH, 1);
        gate.program(Ops.JUMP, 3 + one + other);
        gate.times(other, Ops.PUSH, 2);
        gate.program(Ops.STOP, 0);
        if (one == other) {
            gate.sound(true);
            gate.height(3 + one + other, one);
        } else {
            notSound(gate);
        }
    }

    private static void justTheHeight(Bench bench) {
        for (int one = 0; one <= 8; one++) {
            for (int other = 0; other <= 8; other++) {
                twoWays(bench, Ops.JZERO, one, other);
                twoWays(bench, Ops.JPOS, one, other);
            }
        }
    }

    /** A loop at height 2 that the instruction leaves as it is, or makes grow or shrink. */
    private static void justTheHeightInLoops(Bench bench) {
        for (int op = Ops.PUSH; op <= Ops.COST; op++) {
            Gate gate = bench.gate(Ops.PUSH, 1, Ops.PUSH, 2, op, jumps(op) ? 3 : 0, Ops.JUMP, 2);
            sound(gate, GROWS[op] == 0);
        }
        int[] ops = {Ops.JZERO, Ops.JPOS};
        for (int op : ops) {
            sound(bench.gate(Ops.PUSH, 1, Ops.DUP, 0, op, 1, Ops.STOP, 0), true);
            sound(bench.gate(Ops.PUSH, 1, Ops.DUP, 0, Ops.DUP, 0, op, 1, Ops.STOP, 0), false);
            sound(bench.gate(Ops.PUSH, 1, Ops.COST, 0, op, 1, Ops.STOP, 0), false);
            sound(bench.gate(Ops.PUSH, 1, op, 2, Ops.STOP, 0), true);
            sound(bench.gate(Ops.PUSH, 1, op, 1, Ops.STOP, 0), false);
        }
    }

    /** The last instruction of each program but the STOP behind it is a POP of nothing. */
    private static void reachedByEveryWay(Bench bench) {
        notSound(bench.gate(Ops.POP, 0, Ops.STOP, 0));
        notSound(bench.gate(Ops.COST, 0, Ops.POP, 0, Ops.STOP, 0));
        notSound(bench.gate(Ops.JUMP, 2, Ops.STOP, 0, Ops.POP, 0, Ops.STOP, 0));
        notSound(bench.gate(Ops.PUSH, 0, Ops.JZERO, 3, Ops.STOP, 0, Ops.POP, 0, Ops.STOP, 0));
        notSound(bench.gate(Ops.PUSH, 0, Ops.JZERO, 3, Ops.POP, 0, Ops.STOP, 0));
        notSound(bench.gate(Ops.PUSH, 1, Ops.JPOS, 3, Ops.STOP, 0, Ops.POP, 0, Ops.STOP, 0));
        notSound(bench.gate(Ops.PUSH, 1, Ops.JPOS, 3, Ops.POP, 0, Ops.STOP, 0));
        for (int op = Ops.PUSH; op <= Ops.COST; op++) {
            Gate gate = bench.gate(Ops.PUSH, 1, Ops.PUSH, 1, op, jumps(op) ? 3 : 0, Ops.STOP, 0);
            gate.sound(true);
            gate.height(3, op == Ops.STOP ? FuelGate.BAD_PLACE : 2 + GROWS[op]);
        }
    }

    /** What stands behind STOP or JUMP and is gone to from nowhere is free to be wrong. */
    private static void notReached(Bench bench) {
        int[][] wrong = {{Ops.POP, 0}, {Ops.SWAP, 0}, {Ops.JUMP, MAX}, {Ops.JUMP, -1}, {Ops.PUSH, 0, Ops.JUMP, 0},
            {Ops.PUSH, 0, Ops.JZERO, MIN}, {Ops.PUSH, 0}, {Ops.COST, 0}};
        for (int[] part : wrong) {
            Gate behindStop = bench.gate(Ops.STOP, 0);
            behindStop.program(part);
            behindStop.sound(true);
            behindStop.height(0, 0);
            behindStop.height(1, FuelGate.BAD_PLACE);
            behindStop.run(1, FuelGate.STOPPED);
            Gate behindJump = bench.gate(Ops.JUMP, 0);
            behindJump.program(part);
            behindJump.sound(true);
            behindJump.height(1, FuelGate.BAD_PLACE);
        }
        Gate jumpedOver = bench.gate(Ops.JUMP, 2, Ops.PUSH, 0, Ops.STOP, 0);
        jumpedOver.sound(true);
        jumpedOver.height(1, FuelGate.BAD_PLACE);
        jumpedOver.height(2, 0);
        Gate jumpedTo = bench.gate(Ops.JUMP, 1, Ops.PUSH, 0, Ops.STOP, 0);
        jumpedTo.sound(true);
        jumpedTo.height(1, 0);
        jumpedTo.height(2, 1);
    }

    /** Jumps from the last instruction to the front, one by one: the worst order to follow them in. */
    private static void reachedThroughChains(Bench bench) {
        int[] ends = {Ops.STOP, Ops.POP, Ops.SWAP, Ops.PUSH};
        for (int end : ends) {
            Gate gate = bench.gate(Ops.JUMP, 23, end, 0);
            for (int p = 2; p < 24; p++) {
                gate.program(Ops.JUMP, p - 1);
            }
            sound(gate, end == Ops.STOP);
        }
        Gate ahead = bench.gate();
        ahead.times(22, Ops.COST, 0);
        ahead.program(Ops.POP, 0, Ops.STOP, 0);
        notSound(ahead);
        Gate growing = bench.gate(Ops.JUMP, 22, Ops.STOP, 0);
        for (int p = 2; p < 24; p += 2) {
            growing.program(p > 6 ? Ops.COST : Ops.PUSH, 0, Ops.JUMP, p == 2 ? 1 : p - 2);
        }
        growing.sound(true);
        growing.height(22, 0);
        growing.height(6, 0);
        growing.height(3, 3);
        growing.height(1, 3);
    }

    private static void lastInstruction(Bench bench) {
        for (int op = Ops.PUSH; op <= Ops.COST; op++) {
            Gate reached = bench.gate(Ops.PUSH, 1, Ops.PUSH, 1, op, op == Ops.JUMP ? 2 : 1);
            sound(reached, op == Ops.JUMP || op == Ops.STOP);
            Gate unreached = bench.gate(Ops.STOP, 0, op, 0);
            sound(unreached, true);
            Gate alone = bench.gate(op, 0);
            sound(alone, op == Ops.JUMP || op == Ops.STOP);
        }
    }

    private static void noInstructions(Bench bench) {
        Gate gate = bench.gate();
        notSound(gate);
        gate.program(Ops.STOP, 0);
        sound(gate, true);
        gate.clear();
        notSound(gate);
    }
}
