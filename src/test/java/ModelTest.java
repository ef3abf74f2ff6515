import java.util.Random;

/** The class against the model: every short program, and runs of 512 calls drawn from fixed seeds. */
public final class ModelTest {
    private static final int[] EDGES = {Integer.MIN_VALUE, -2001, -5, -1, 0, 1, 2, 3, 4, 7, 8, 15, 16, 23, 24, 25, 1999,
        2000, 2001, Integer.MAX_VALUE};
    private static final int CALLS = 512;

    private static int soundPrograms = 0;
    private static int stops = 0;
    private static int halts = 0;
    private static int stopsBehindRefuel = 0;
    private static int fullStacks = 0;
    private static int fullPrograms = 0;

    public static void main(String[] args) {
        shortPrograms();
        for (int seed = 1; seed <= 4000 && Due.wrongSoFar() < 20; seed++) {
            drawnRun(seed);
        }
        reachedEnough("sound programs", soundPrograms);
        reachedEnough("runs that stopped", stops);
        reachedEnough("runs that halted", halts);
        reachedEnough("runs that stopped behind refuel", stopsBehindRefuel);
        reachedEnough("runs with a full stack", fullStacks);
        reachedEnough("full programs", fullPrograms);
        Due.end();
    }

    /** Drawn runs that never come to the edges would prove nothing. */
    private static void reachedEnough(String what, int times) {
        Due.is("at least 100 " + what + " (" + times + ")", times >= 100, true);
    }

    private static void shortPrograms() {
        int kinds = 15 * 5;
        int wholes = kinds * kinds * kinds;
        for (int code = 0; code < wholes && Due.wrongSoFar() < 20; code++) {
            FuelGate gate = new FuelGate();
            Model model = new Model();
            for (int rest = code, k = 0; k < 3; k++, rest /= kinds) {
                emitBoth(gate, model, rest % 15, rest % kinds / 15 - 1);
            }
            if (gate.sound() != model.sound() || model.sound()) {
                gate.run(6);
                model.run(6);
                compare("short program", gate, model);
            }
        }
    }

    private static int emitBoth(FuelGate gate, Model model, int op, int c) {
        int want = model.emit(op, c);
        Due.is("emit(" + op + ", " + c + ")", gate.emit(op, c), want);
        return want;
    }

    private static void compare(String where, FuelGate gate, Model model) {
        String what = where + ", program " + model.text();
        Due.is(what + "sound()", gate.sound(), model.sound());
        Due.is(what + "state()", gate.state(), model.state());
        Due.is(what + "fuel()", gate.fuel(), model.fuel());
        Due.is(what + "place()", gate.place(), model.place());
        Due.is(what + "depth()", gate.depth(), model.depth());
        for (int i = 0; i < 9; i++) {
            Due.is(what + "top(" + i + ")", gate.top(i), model.top(i));
        }
        for (int i = 0; i < 4; i++) {
            Due.is(what + "get(" + i + ")", gate.get(i), model.get(i));
        }
        for (int p = -1; p < 4; p++) {
            Due.is(what + "height(" + p + ")", gate.height(p), model.height(p));
        }
    }

    private static void drawnRun(int seed) {
        Random random = new Random(seed);
        FuelGate gate = new FuelGate();
        Model model = new Model();
        int used = 0;
        while (used < CALLS && Due.wrongSoFar() < 20) {
            if (random.nextInt(60) == 0) {
                gate.clear();
                model.clear();
                used += 1 + drawnProgram(random, gate, model, CALLS - used - 1);
            } else {
                drawnCall(seed, random, gate, model);
                used++;
            }
        }
    }

    private static int drawnProgram(Random random, FuelGate gate, Model model, int most) {
        int length = Math.min(most, 1 + random.nextInt(24));
        int height = 0;
        boolean wild = random.nextInt(6) == 0;
        for (int k = 0; k < length; k++) {
            int op = k == length - 1 && !wild ? Ops.STOP : drawnOp(random, height, wild);
            int c = drawnNumber(random, op, k, length);
            emitBoth(gate, model, op, c);
            height += op == Ops.PUSH || op == Ops.DUP || op == Ops.OVER || op == Ops.GET ? 1 : 0;
            height -= op == Ops.POP || op >= Ops.ADD && op <= Ops.MUL || op == Ops.SET ? 1 : 0;
            height -= op == Ops.JZERO || op == Ops.JPOS ? 1 : 0;
        }
        soundPrograms += model.sound() ? 1 : 0;
        fullPrograms += length == 24 ? 1 : 0;
        return length;
    }

    /** Mostly an instruction that the height allows, so that enough programs are sound. */
    private static int drawnOp(Random random, int height, boolean wild) {
        if (wild) {
            return random.nextInt(15);
        }
        int[] low = {Ops.PUSH, Ops.GET, Ops.PUSH, Ops.COST};
        int[] one = {Ops.PUSH, Ops.GET, Ops.DUP, Ops.SET, Ops.JZERO, Ops.JPOS, Ops.POP};
        int[] more = {Ops.PUSH, Ops.PUSH, Ops.GET, Ops.DUP, Ops.OVER, Ops.OVER, Ops.SWAP, Ops.ADD, Ops.SUB, Ops.MUL,
            Ops.JPOS};
        int[] high = {Ops.ADD, Ops.SUB, Ops.MUL, Ops.SWAP, Ops.COST, Ops.POP, Ops.SET, Ops.SWAP};
        int[] choice = height <= 0 ? low : height == 1 ? one : height < 8 ? more : high;
        return choice[random.nextInt(choice.length)];
    }

    private static int drawnNumber(Random random, int op, int k, int length) {
        if (op == Ops.JUMP || op == Ops.JZERO || op == Ops.JPOS) {
            int near = random.nextInt(3) == 0 ? random.nextInt(length) : k + 1;
            return random.nextInt(40) == 0 ? EDGES[random.nextInt(EDGES.length)] : near;
        }
        return random.nextBoolean() ? random.nextInt(7) - 3 : random.nextInt();
    }

    private static int drawnArgument(Random random) {
        return random.nextInt(3) == 0 ? EDGES[random.nextInt(EDGES.length)] : random.nextInt(30) - 3;
    }

    private static void drawnCall(int seed, Random random, FuelGate gate, Model model) {
        int call = random.nextInt(24);
        int a = drawnArgument(random);
        int b = drawnArgument(random);
        String what = "seed " + seed + ", program " + model.text() + "call " + call + " with " + a + ", " + b;
        if (call < 12) {
            ask(what, call, a, gate, model);
        } else if (call < 17) {
            Due.is(what + ", run", gate.run(a), model.run(a));
            countRun(model);
        } else if (call < 22) {
            int before = model.state();
            Due.is(what + ", refuel", gate.refuel(a), model.refuel(a));
            stopsBehindRefuel += before == FuelGate.NO_FUEL && model.state() == FuelGate.STOPPED ? 1 : 0;
        } else if (call == 22) {
            Due.is(what + ", cell", gate.cell(a, b), model.cell(a, b));
        } else if (random.nextInt(6) == 0) {
            emitBoth(gate, model, a, b);
        }
    }

    private static void countRun(Model model) {
        stops += model.state() == FuelGate.STOPPED ? 1 : 0;
        halts += model.state() == FuelGate.NO_FUEL ? 1 : 0;
        fullStacks += model.depth() == 8 ? 1 : 0;
    }

    private static void ask(String what, int call, int a, FuelGate gate, Model model) {
        switch (call) {
            case 0: Due.is(what + ", sound", gate.sound(), model.sound()); break;
            case 1: Due.is(what + ", state", gate.state(), model.state()); break;
            case 2: Due.is(what + ", fuel", gate.fuel(), model.fuel()); break;
            case 3: Due.is(what + ", place", gate.place(), model.place()); break;
            case 4: Due.is(what + ", depth", gate.depth(), model.depth()); break;
            case 5: Due.is(what + ", get", gate.get(a), model.get(a)); break;
            case 6:
            case 7: Due.is(what + ", height", gate.height(a), model.height(a)); break;
            default: Due.is(what + ", top", gate.top(a), model.top(a)); break;
        }
    }
}
