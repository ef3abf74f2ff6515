import java.util.function.Consumer;

/** The edges that the end of the Terms and promises 7 to 14, the asking calls, name, a sentence at a time. */
public final class AskingEdgesTest {
    private static final int MIN = Integer.MIN_VALUE;
    private static final int MAX = Integer.MAX_VALUE;

    public static void main(String[] args) {
        Bench.sentence("\"The calls below change nothing that any call answers.\"", AskingEdgesTest::askingCalls);
        Bench.sentence("8 \"else BAD_PLACE\"", AskingEdgesTest::heightElse);
        Bench.sentence("8 \"The height of an instruction\"", AskingEdgesTest::heightOfAll);
        Bench.sentence("9 \"The state.\"", AskingEdgesTest::stateInEachState);
        Bench.sentence("10 \"The fuel that is left\"", AskingEdgesTest::fuelOfScenes);
        Bench.sentence("10 \"0 in the state NONE\"", AskingEdgesTest::fuelInEachState);
        Bench.sentence("11 \"before which the run halted\"", AskingEdgesTest::placeOfHalts);
        Bench.sentence("11 \"for STOPPED the number of the STOP\"", AskingEdgesTest::placeOfStops);
        Bench.sentence("11 \"BAD_PLACE in the state NONE\"", AskingEdgesTest::placeWithoutRun);
        Bench.sentence("12 \"0 in the state NONE\"", AskingEdgesTest::depthInEachState);
        Bench.sentence("13 \"i below the top of the stack, i from 0\"", AskingEdgesTest::topOfFullStack);
        Bench.sentence("13 \"0 if there is none\"", AskingEdgesTest::topOfNone);
        Bench.sentence("13 \"or the state is NONE\"", AskingEdgesTest::topWithoutRun);
        Bench.sentence("14 \"The value of a cell (i & 3).\"", AskingEdgesTest::getAny);
        Due.end();
    }

    /** Each asking call, and behind it each call there is: that one answers as if nothing had been asked. */
    private static void askingCalls(Bench bench) {
        Scenes.inEach(scene -> {
            for (int asking = 0; asking < Gate.ASKING.length; asking++) {
                askThenAsk(bench, scene, asking);
                askThenChange(bench, scene, asking);
            }
        }, Scenes.WITH_ROOM, Scenes.FULL);
    }

    private static Gate asked(Bench bench, Consumer<Gate> scene, int asking) {
        Gate gate = bench.inScene(scene);
        for (int i : Bench.ANY) {
            gate.ask(asking, i);
        }
        return gate;
    }

    private static void askThenAsk(Bench bench, Consumer<Gate> scene, int asking) {
        for (int next = 0; next < Gate.ASKING.length; next++) {
            Gate asked = asked(bench, scene, asking);
            Gate spared = bench.inScene(scene);
            for (int i : Bench.ANY) {
                asked.answersAs(spared, next, i);
            }
        }
    }

    private static void askThenChange(Bench bench, Consumer<Gate> scene, int asking) {
        for (int next = 0; next < Gate.CHANGING.length; next++) {
            Gate asked = asked(bench, scene, asking);
            Gate spared = bench.inScene(scene);
            asked.changesAs(spared, next);
        }
    }

    private static void heightElse(Bench bench) {
        int[] outside = {MIN, MIN + 1, -65536, -256, -24, -2, -1, 3, 4, 23, 24, 25, 256, 257, 65536, MAX - 1, MAX};
        Gate gate = bench.gate(Ops.PUSH, 0, Ops.STOP, 0, Ops.STOP, 0);
        for (int p : outside) {
            gate.height(p, FuelGate.BAD_PLACE);
        }
        gate.height(0, 0);
        gate.height(1, 1);
        gate.height(2, FuelGate.BAD_PLACE);
        Scenes.inEach(scene -> {
            Gate notSound = bench.inScene(scene);
            for (int p : Bench.ANY) {
                notSound.height(p, FuelGate.BAD_PLACE);
            }
        }, Scenes.NOT_SOUND);
        Gate full = bench.gate(Ops.PUSH, 0);
        full.times(22, Ops.COST, 0);
        full.height(0, FuelGate.BAD_PLACE);
        full.program(Ops.STOP, 0);
        full.height(-1, FuelGate.BAD_PLACE);
        full.height(0, 0);
        full.height(23, 1);
        full.height(24, FuelGate.BAD_PLACE);
        full.height(MIN, FuelGate.BAD_PLACE);
        full.height(MAX, FuelGate.BAD_PLACE);
    }

    private static void heightOfAll(Bench bench) {
        Gate gate = bench.gate();
        gate.times(8, Ops.PUSH, 1);
        gate.times(8, Ops.POP, 0);
        gate.program(Ops.JUMP, 18, Ops.DUP, 0, Ops.STOP, 0);
        for (int p = 0; p <= 16; p++) {
            gate.height(p, p <= 8 ? p : 16 - p);
        }
        gate.height(17, FuelGate.BAD_PLACE);
        gate.height(18, 0);
        gate.height(19, FuelGate.BAD_PLACE);
        gate.run(5, FuelGate.NO_FUEL);
        gate.height(8, 8);
        gate.run(2000, FuelGate.STOPPED);
        gate.height(8, 8);
    }

    private static void stateInEachState(Bench bench) {
        Scenes.inEach(scene -> oneState(bench, scene, FuelGate.NONE), Scenes.NOT_SOUND, Scenes.SOUND_WITHOUT_RUN);
        Scenes.inEach(scene -> oneState(bench, scene, FuelGate.NO_FUEL), Scenes.HALTED);
        Scenes.inEach(scene -> oneState(bench, scene, FuelGate.STOPPED), Scenes.STOPPED);
    }

    private static void oneState(Bench bench, Consumer<Gate> scene, int want) {
        Gate gate = bench.inScene(scene);
        gate.state(want);
        gate.state(want);
        gate.refuel(0, want);
        gate.state(want);
    }

    /** Here the scenes, which ask nothing themselves, are seen to be what they are meant to be. */
    private static void fuelOfScenes(Bench bench) {
        bench.inScene(Scenes.HALTED.get(0)).stands(FuelGate.NO_FUEL, 0, 0);
        bench.inScene(Scenes.HALTED.get(1)).stands(FuelGate.NO_FUEL, 8, 2, 5, 6);
        bench.inScene(Scenes.HALTED.get(2)).stands(FuelGate.NO_FUEL, 0, 23, 8, 7, 6, 5, 4, 3, 2, 1);
        bench.inScene(Scenes.STOPPED.get(0)).stands(FuelGate.STOPPED, 6, 4, 11);
        bench.inScene(Scenes.STOPPED.get(1)).stands(FuelGate.STOPPED, 2, 23, 8, 7, 6, 5, 4, 3, 2, 1);
    }

    private static void fuelInEachState(Bench bench) {
        Scenes.inEach(scene -> {
            Gate gate = bench.inScene(scene);
            gate.fuel(0);
        }, Scenes.NOT_SOUND, Scenes.SOUND_WITHOUT_RUN);
        Gate gate = bench.gate(Ops.COST, 15, Ops.STOP, 0);
        gate.run(15, FuelGate.NO_FUEL);
        gate.fuel(15);
        gate.emit(Ops.STOP, 0, 2);
        gate.fuel(0);
        gate.run(2000, FuelGate.STOPPED);
        gate.fuel(1983);
        gate.clear();
        gate.fuel(0);
        gate.run(2000, FuelGate.NOT_SOUND);
        gate.fuel(0);
        gate.refuel(2000, FuelGate.NONE);
        gate.fuel(0);
    }

    private static void placeOfHalts(Bench bench) {
        Gate gate = bench.gate();
        gate.times(23, Ops.COST, 0);
        gate.program(Ops.STOP, 0);
        for (int fuel = 0; fuel <= 23; fuel++) {
            gate.run(fuel, FuelGate.NO_FUEL);
            gate.place(fuel);
        }
    }

    private static void placeOfStops(Bench bench) {
        for (int p = 0; p <= 23; p++) {
            Gate gate = bench.gate();
            gate.times(p, Ops.COST, 0);
            gate.times(24 - p, Ops.STOP, 0);
            gate.run(2000, FuelGate.STOPPED);
            gate.place(p);
        }
    }

    private static void placeWithoutRun(Bench bench) {
        Scenes.inEach(scene -> {
            Gate gate = bench.inScene(scene);
            gate.place(FuelGate.BAD_PLACE);
        }, Scenes.NOT_SOUND, Scenes.SOUND_WITHOUT_RUN);
        Scenes.inEach(scene -> {
            Gate gate = bench.inScene(scene);
            gate.clear();
            gate.place(FuelGate.BAD_PLACE);
        }, Scenes.HALTED, Scenes.STOPPED);
    }

    /** So many PUSHes of 1, 2, 3 and on, then STOP. */
    private static Gate pushes(Bench bench, int times) {
        Gate gate = bench.gate();
        for (int k = 1; k <= times; k++) {
            gate.program(Ops.PUSH, k);
        }
        gate.program(Ops.STOP, 0);
        return gate;
    }

    private static void depthInEachState(Bench bench) {
        for (int depth = 0; depth <= 8; depth++) {
            Gate gate = pushes(bench, depth);
            gate.depth(0);
            gate.run(depth, FuelGate.NO_FUEL);
            gate.depth(depth);
            gate.refuel(1, FuelGate.STOPPED);
            gate.depth(depth);
            gate.emit(Ops.STOP, 0, depth + 1);
            gate.depth(0);
            gate.run(depth, FuelGate.NO_FUEL);
            gate.depth(depth);
            gate.clear();
            gate.depth(0);
        }
    }

    private static void topOfFullStack(Bench bench) {
        Gate gate = pushes(bench, 8);
        gate.run(8, FuelGate.NO_FUEL);
        for (int i = 0; i <= 7; i++) {
            gate.top(i, 8 - i);
        }
        gate.top(8, 0);
        gate.refuel(1, FuelGate.STOPPED);
        for (int i = 0; i <= 7; i++) {
            gate.top(i, 8 - i);
        }
        gate.top(-1, 0);
        gate.top(8, 0);
    }

    /** What lay on the stack before, and is taken off, is no more. */
    private static void topOfNone(Bench bench) {
        int[] outside = {MIN, MIN + 1, -256, -8, -2, -1, 8, 9, 15, 16, 256, 65536, MAX - 1, MAX};
        for (int depth = 0; depth <= 8; depth++) {
            Gate gate = bench.gate();
            gate.times(8, Ops.PUSH, 9);
            gate.times(8 - depth, Ops.POP, 0);
            gate.program(Ops.STOP, 0);
            gate.run(16 - depth, FuelGate.NO_FUEL);
            topsAre9(gate, depth, outside);
            gate.refuel(1, FuelGate.STOPPED);
            topsAre9(gate, depth, outside);
        }
    }

    private static void topsAre9(Gate gate, int depth, int[] outside) {
        gate.depth(depth);
        for (int i = 0; i <= 8; i++) {
            gate.top(i, i < depth ? 9 : 0);
        }
        for (int i : outside) {
            gate.top(i, 0);
        }
    }

    private static void topWithoutRun(Bench bench) {
        Scenes.inEach(scene -> {
            Gate gate = bench.inScene(scene);
            gate.clear();
            for (int i : Bench.ANY) {
                gate.top(i, 0);
            }
        }, Scenes.HALTED, Scenes.STOPPED);
        Gate gate = pushes(bench, 8);
        gate.run(8, FuelGate.NO_FUEL);
        gate.emit(Ops.STOP, 0, 9);
        for (int i = -1; i <= 8; i++) {
            gate.top(i, 0);
        }
    }

    private static void getAny(Bench bench) {
        Gate gate = bench.gate();
        gate.cell(0, MIN, 0);
        gate.cell(1, -1, 0);
        gate.cell(2, 7, 0);
        gate.cell(3, MAX, 0);
        int[] values = {MIN, -1, 7, MAX};
        for (int i : Bench.ANY) {
            gate.get(i, values[Math.floorMod(i, 4)]);
        }
        gate.cells(MIN, -1, 7, MAX);
    }
}
