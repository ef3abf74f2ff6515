import java.util.List;
import java.util.function.Consumer;

/**
 * Objects in each of the states that the document tells apart, their cells being 5, the least int, the greatest and -1.
 * None is asked anything on the way, so that a test may hold objects that were asked against ones that were not.
 */
final class Scenes {
    private static final int MIN = Integer.MIN_VALUE;
    private static final int MAX = Integer.MAX_VALUE;

    static final List<Consumer<Gate>> WITH_ROOM = List.of(Scenes::noProgram, Scenes::soundProgram,
        Scenes::notSoundProgram, Scenes::notSoundAnyMore, Scenes::droppedInARun, Scenes::haltedFirst, Scenes::halted,
        Scenes::stopped);

    static final List<Consumer<Gate>> FULL = List.of(Scenes::fullProgram, Scenes::fullNotSound, Scenes::fullHalted,
        Scenes::fullStopped);

    static final List<Consumer<Gate>> NOT_SOUND = List.of(Scenes::noProgram, Scenes::notSoundProgram,
        Scenes::notSoundAnyMore, Scenes::droppedInARun, Scenes::fullNotSound);

    static final List<Consumer<Gate>> SOUND_WITHOUT_RUN = List.of(Scenes::soundProgram, Scenes::fullProgram);

    static final List<Consumer<Gate>> HALTED = List.of(Scenes::haltedFirst, Scenes::halted, Scenes::fullHalted);

    static final List<Consumer<Gate>> STOPPED = List.of(Scenes::stopped, Scenes::fullStopped);

    private Scenes() {
    }

    @SafeVarargs
    static void inEach(Consumer<Consumer<Gate>> test, List<Consumer<Gate>>... scenes) {
        for (List<Consumer<Gate>> some : scenes) {
            some.forEach(test);
        }
    }

    private static void setCells(Gate gate) {
        gate.cell(0, 5, 0);
        gate.cell(1, MIN, 0);
        gate.cell(2, MAX, 0);
        gate.cell(3, -1, 0);
    }

    private static void noProgram(Gate gate) {
        setCells(gate);
    }

    private static void soundProgram(Gate gate) {
        setCells(gate);
        gate.program(Ops.PUSH, 6, Ops.GET, 0, Ops.COST, 9, Ops.ADD, 0, Ops.STOP, 0);
    }

    private static void notSoundProgram(Gate gate) {
        setCells(gate);
        gate.program(Ops.PUSH, 6, Ops.SET, 1, Ops.POP, 0, Ops.STOP, 0);
    }

    private static void notSoundAnyMore(Gate gate) {
        setCells(gate);
        gate.program(Ops.PUSH, 6, Ops.DUP, 0, Ops.STOP, 0);
        gate.run(2, FuelGate.NO_FUEL);
        gate.clear();
        gate.program(Ops.PUSH, 6, Ops.DUP, 0);
    }

    private static void droppedInARun(Gate gate) {
        setCells(gate);
        gate.program(Ops.PUSH, 6, Ops.DUP, 0, Ops.STOP, 0);
        gate.run(2, FuelGate.NO_FUEL);
        gate.clear();
    }

    private static void haltedFirst(Gate gate) {
        soundProgram(gate);
        gate.run(0, FuelGate.NO_FUEL);
    }

    private static void halted(Gate gate) {
        soundProgram(gate);
        gate.run(10, FuelGate.NO_FUEL);
    }

    private static void stopped(Gate gate) {
        soundProgram(gate);
        gate.run(20, FuelGate.STOPPED);
    }

    private static void fullProgram(Gate gate) {
        setCells(gate);
        gate.program(Ops.PUSH, 1, Ops.PUSH, 2, Ops.PUSH, 3, Ops.PUSH, 4, Ops.PUSH, 5, Ops.PUSH, 6, Ops.PUSH, 7);
        gate.times(15, Ops.COST, 1);
        gate.program(Ops.PUSH, 8, Ops.STOP, 0);
    }

    private static void fullNotSound(Gate gate) {
        setCells(gate);
        gate.times(24, Ops.COST, 1);
    }

    private static void fullHalted(Gate gate) {
        fullProgram(gate);
        gate.run(38, FuelGate.NO_FUEL);
    }

    private static void fullStopped(Gate gate) {
        fullProgram(gate);
        gate.run(41, FuelGate.STOPPED);
    }
}
