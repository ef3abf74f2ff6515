import java.util.function.Consumer;

/** The edges that promises 1 to 6 and 15, the calls that change something, name, a sentence at a time. */
public final class CallsEdgesTest {
    private static final int MIN = Integer.MIN_VALUE;
    private static final int MAX = Integer.MAX_VALUE;

    /** What run or refuel is asked for, and what counts. */
    private static final int[] ASKED_FUEL = {MIN, MIN + 1, -2001, -2000, -2, -1, 0, 1, 2, 1998, 1999, 2000, 2001, 2002,
        4000, 65536, MAX - 1, MAX};
    private static final int[] GIVEN_FUEL = {0, 0, 0, 0, 0, 0, 0, 1, 2, 1998, 1999, 2000, 2000, 2000, 2000, 2000, 2000,
        2000};

    public static void main(String[] args) {
        Bench.sentence("1 \"No instructions\"", CallsEdgesTest::newHasNoInstructions);
        Bench.sentence("1 \"all cells 0\"", CallsEdgesTest::newHasCells0);
        Bench.sentence("1 \"no run: state NONE, fuel 0\"", CallsEdgesTest::newHasNoRun);
        Bench.sentence("2 \"op not in 0 to 14: BAD_OP\"", CallsEdgesTest::badOp);
        Bench.sentence("2 BAD_OP: \"nothing changes then\"", CallsEdgesTest::badOpChangesNothing);
        Bench.sentence("2 \"there are 24: FULL\"", CallsEdgesTest::full);
        Bench.sentence("2 FULL: \"nothing changes then\"", CallsEdgesTest::fullChangesNothing);
        Bench.sentence("2 \"Else answers its number\"", CallsEdgesTest::emitAnswersNumber);
        Bench.sentence("2 \"the run that there is, if any, is over\"", CallsEdgesTest::emitEndsTheRun);
        Bench.sentence("3 \"Drops all instructions\"", CallsEdgesTest::clearDropsInstructions);
        Bench.sentence("3 \"the state is NONE, the fuel 0\"", CallsEdgesTest::clearEndsTheRun);
        Bench.sentence("3 \"Cells stay.\"", CallsEdgesTest::clearKeepsCells);
        Bench.sentence("4 \"Sets a cell (i & 3).\"", CallsEdgesTest::cellSets);
        Bench.sentence("4 \"Answers its old value.\"", CallsEdgesTest::cellAnswersOldValue);
        Bench.sentence("4 \"Sets a cell\" and nothing else", CallsEdgesTest::cellSetsNothingElse);
        Bench.sentence("4 \"Sets a cell\" for a run that goes on", CallsEdgesTest::cellBeforeRefuel);
        Bench.sentence("5 \"below 0 counts as 0, above 2000 as 2000\"", CallsEdgesTest::runFuel);
        Bench.sentence("5 \"above 2000 as 2000\", all spent", CallsEdgesTest::runSpends2000);
        Bench.sentence("5 \"not sound: NOT_SOUND, nothing changes\"", CallsEdgesTest::runNotSound);
        Bench.sentence("5 \"Begins a run\" in every state", CallsEdgesTest::runBeginsAnew);
        Bench.sentence("5 \"if there is less fuel than that\"", CallsEdgesTest::haltsBefore);
        Bench.sentence("5 \"STOP costs too\"", CallsEdgesTest::stopCosts);
        Bench.sentence("6 \"as above\"", CallsEdgesTest::refuelBounds);
        Bench.sentence("6 \"on top of what there is\"", CallsEdgesTest::refuelAdds);
        Bench.sentence("6 \"never more than 2000 in all\"", CallsEdgesTest::refuelAtMost2000);
        Bench.sentence("6 \"goes on where it halted\"", CallsEdgesTest::refuelGoesOn);
        Bench.sentence("6 \"In another state nothing changes.\"", CallsEdgesTest::refuelInAnotherState);
        Bench.sentence("15 \"BAD_OP is tested before FULL\"", CallsEdgesTest::badOpBeforeFull);
        Due.end();
    }

    private static void newHasNoInstructions(Bench bench) {
        Gate gate = bench.gate();
        gate.sound(false);
        for (int p : Bench.ANY) {
            gate.height(p, FuelGate.BAD_PLACE);
        }
        gate.run(2000, FuelGate.NOT_SOUND);
        gate.emit(Ops.STOP, 0, 0);
        gate.sound(true);
    }

    private static void newHasCells0(Bench bench) {
        Gate gate = bench.gate();
        gate.cells(0, 0, 0, 0);
        Gate running = bench.gate(Ops.GET, 0, Ops.GET, 1, Ops.GET, 2, Ops.GET, 3, Ops.STOP, 0);
        running.run(5, FuelGate.STOPPED);
        running.stands(FuelGate.STOPPED, 0, 4, 0, 0, 0, 0);
        Gate setting = bench.gate();
        for (int i = 0; i < 4; i++) {
            setting.cell(i, 1, 0);
        }
    }

    private static void newHasNoRun(Bench bench) {
        Gate gate = bench.gate();
        gate.noRun();
        gate.refuel(MAX, FuelGate.NONE);
        gate.noRun();
    }

    private static void badOp(Bench bench) {
        int[] wrong = {MIN, MIN + 1, -256, -15, -2, -1, 15, 16, 255, 256, 65536, MAX - 1, MAX};
        int[] numbers = {MIN, -1, 0, 1, MAX};
        for (int c : numbers) {
            Gate gate = bench.gate();
            for (int op : wrong) {
                gate.emit(op, c, FuelGate.BAD_OP);
            }
            for (int op = 0; op <= 14; op++) {
                gate.emit(op, c, op);
                gate.emit(-1, c, FuelGate.BAD_OP);
                gate.emit(15, c, FuelGate.BAD_OP);
            }
        }
    }

    private static void badOpChangesNothing(Bench bench) {
        Scenes.inEach(scene -> bench.changesNothing(scene, gate -> {
            gate.emit(-1, 0, FuelGate.BAD_OP);
            gate.emit(15, 1, FuelGate.BAD_OP);
            gate.emit(MIN, MIN, FuelGate.BAD_OP);
            gate.emit(MAX, MAX, FuelGate.BAD_OP);
        }), Scenes.WITH_ROOM, Scenes.FULL);
    }

    private static void full(Bench bench) {
        for (int op = 0; op <= 14; op++) {
            Gate gate = bench.gate();
            gate.times(22, Ops.COST, 0);
            gate.emit(Ops.COST, 0, 22);
            gate.emit(op, MIN, 23);
            gate.emit(op, MIN, FuelGate.FULL);
            gate.emit(op, 0, FuelGate.FULL);
            gate.emit(op, MAX, FuelGate.FULL);
            gate.clear();
            gate.emit(op, 0, 0);
        }
    }

    private static void fullChangesNothing(Bench bench) {
        Scenes.inEach(scene -> bench.changesNothing(scene, gate -> {
            for (int op = 0; op <= 14; op++) {
                gate.emit(op, op, FuelGate.FULL);
            }
            gate.emit(0, MIN, FuelGate.FULL);
            gate.emit(14, MAX, FuelGate.FULL);
        }), Scenes.FULL);
    }

    private static void emitAnswersNumber(Bench bench) {
        int[] numbers = {MIN, -1, 0, MAX};
        for (int c : numbers) {
            Gate gate = bench.gate();
            for (int number = 0; number < 24; number++) {
                gate.emit(number % 15, c, number);
            }
            gate.clear();
            gate.emit(14, c, 0);
            gate.emit(0, c, 1);
        }
    }

    private static void emitEndsTheRun(Bench bench) {
        int[][] appended = {{0, MIN}, {13, 0}, {14, MAX}};
        for (int[] instruction : appended) {
            Scenes.inEach(scene -> {
                Gate gate = bench.inScene(scene);
                gate.program(instruction);
                gate.noRun();
                gate.refuel(2000, FuelGate.NONE);
                gate.noRun();
                gate.cells(5, MIN, MAX, -1);
            }, Scenes.WITH_ROOM);
        }
    }

    private static void clearDropsInstructions(Bench bench) {
        for (int length = 0; length <= 24; length++) {
            Gate gate = bench.gate();
            gate.times(length, Ops.STOP, 0);
            gate.clear();
            gate.sound(false);
            gate.height(0, FuelGate.BAD_PLACE);
            gate.height(length - 1, FuelGate.BAD_PLACE);
            gate.run(2000, FuelGate.NOT_SOUND);
            gate.emit(Ops.COST, 0, 0);
            gate.sound(false);
            gate.height(0, FuelGate.BAD_PLACE);
            gate.emit(Ops.JUMP, 2, 1);
            gate.sound(false);
            gate.emit(Ops.STOP, 0, 2);
            gate.sound(true);
            gate.times(21, Ops.STOP, 0);
            gate.emit(Ops.STOP, 0, FuelGate.FULL);
        }
    }

    private static void clearEndsTheRun(Bench bench) {
        Scenes.inEach(scene -> {
            Gate gate = bench.inScene(scene);
            gate.clear();
            gate.noRun();
            gate.refuel(2000, FuelGate.NONE);
            gate.noRun();
            gate.clear();
            gate.noRun();
        }, Scenes.WITH_ROOM, Scenes.FULL);
    }

    private static void clearKeepsCells(Bench bench) {
        Scenes.inEach(scene -> {
            Gate gate = bench.inScene(scene);
            gate.clear();
            gate.cells(5, MIN, MAX, -1);
            gate.clear();
            gate.cells(5, MIN, MAX, -1);
        }, Scenes.WITH_ROOM, Scenes.FULL);
        Gate setByRun = bench.gate(Ops.PUSH, MAX, Ops.SET, 2, Ops.PUSH, MIN, Ops.SET, 3, Ops.STOP, 0);
        setByRun.run(4, FuelGate.NO_FUEL);
        setByRun.clear();
        setByRun.cells(0, 0, MAX, MIN);
    }

    private static void cellSets(Bench bench) {
        int[] values = {MIN, -1, 0, 1, MAX};
        for (int i : Bench.ANY) {
            for (int value : values) {
                Gate gate = bench.gate();
                for (int k = 0; k < 4; k++) {
                    gate.cell(k, 100 + k, 0);
                }
                gate.cell(i, value, 100 + Math.floorMod(i, 4));
                for (int k = 0; k < 4; k++) {
                    gate.get(k, k == Math.floorMod(i, 4) ? value : 100 + k);
                }
            }
        }
    }

    private static void cellAnswersOldValue(Bench bench) {
        int[] values = {MIN, MIN + 1, -2, -1, 0, 1, 2, MAX - 1, MAX, 0};
        for (int i : Bench.ANY) {
            Gate gate = bench.gate();
            int old = 0;
            for (int value : values) {
                gate.cell(i, value, old);
                gate.cell(i, value, value);
                old = value;
            }
        }
        Gate running = bench.gate(Ops.PUSH, MIN, Ops.SET, 2, Ops.STOP, 0);
        running.cell(2, 8, 0);
        running.run(1, FuelGate.NO_FUEL);
        running.cell(2, 9, 8);
        running.refuel(1, FuelGate.NO_FUEL);
        running.cell(2, 10, MIN);
        running.cell(-2, 11, 10);
    }

    private static void cellSetsNothingElse(Bench bench) {
        Scenes.inEach(scene -> bench.changesNothing(scene, gate -> {
            gate.cell(1, 17, MIN);
            gate.cell(MIN + 1, 18, 17);
            gate.cell(1, MIN, 18);
            gate.cell(MAX, MAX, -1);
            gate.cell(-1, -1, MAX);
        }), Scenes.WITH_ROOM, Scenes.FULL);
    }

    private static void cellBeforeRefuel(Bench bench) {
        Gate gate = bench.gate(Ops.GET, 1, Ops.GET, 1, Ops.PUSH, 3, Ops.SET, 1, Ops.GET, 1, Ops.STOP, 0);
        gate.run(1, FuelGate.NO_FUEL);
        gate.cell(5, MIN, 0);
        gate.stands(FuelGate.NO_FUEL, 0, 1, 0);
        gate.refuel(1, FuelGate.NO_FUEL);
        gate.stands(FuelGate.NO_FUEL, 0, 2, MIN, 0);
        gate.refuel(2, FuelGate.NO_FUEL);
        gate.get(1, 3);
        gate.cell(-3, MAX, 3);
        gate.refuel(2, FuelGate.STOPPED);
        gate.stands(FuelGate.STOPPED, 0, 5, MAX, MIN, 0);
        gate.cell(1, 4, MAX);
        gate.stands(FuelGate.STOPPED, 0, 5, MAX, MIN, 0);
        gate.run(1, FuelGate.NO_FUEL);
        gate.stands(FuelGate.NO_FUEL, 0, 1, 4);
    }

    private static void runFuel(Bench bench) {
        for (int k = 0; k < ASKED_FUEL.length; k++) {
            Gate gate = bench.gate(Ops.STOP, 0);
            boolean enough = GIVEN_FUEL[k] >= 1;
            gate.run(ASKED_FUEL[k], enough ? FuelGate.STOPPED : FuelGate.NO_FUEL);
            gate.stands(enough ? FuelGate.STOPPED : FuelGate.NO_FUEL, enough ? GIVEN_FUEL[k] - 1 : 0, 0);
        }
    }

    /** A loop of 333 rounds, 1998 in all, then COST c and STOP. */
    private static Gate longRun(Bench bench, int c) {
        Gate gate = bench.gate(Ops.GET, 0, Ops.PUSH, 1, Ops.SUB, 0, Ops.DUP, 0, Ops.SET, 0, Ops.JPOS, 0, Ops.COST, c,
            Ops.STOP, 0);
        gate.cell(0, 333, 0);
        return gate;
    }

    private static void runSpends2000(Bench bench) {
        int[] all = {2000, 2001, MAX};
        for (int fuel : all) {
            Gate just = longRun(bench, 0);
            just.run(fuel, FuelGate.STOPPED);
            just.stands(FuelGate.STOPPED, 0, 7);
            just.get(0, 0);
            Gate oneMore = longRun(bench, 1);
            oneMore.run(fuel, FuelGate.NO_FUEL);
            oneMore.stands(FuelGate.NO_FUEL, 0, 7);
            Gate twoMore = longRun(bench, 2);
            twoMore.run(fuel, FuelGate.NO_FUEL);
            twoMore.stands(FuelGate.NO_FUEL, 2, 6);
        }
        Gate less = longRun(bench, 0);
        less.run(1999, FuelGate.NO_FUEL);
        less.stands(FuelGate.NO_FUEL, 0, 7);
        Gate endless = bench.gate(Ops.GET, 3, Ops.PUSH, 1, Ops.ADD, 0, Ops.SET, 3, Ops.JUMP, 0);
        endless.run(MAX, FuelGate.NO_FUEL);
        endless.get(3, 400);
        endless.refuel(MAX, FuelGate.NO_FUEL);
        endless.get(3, 800);
        endless.stands(FuelGate.NO_FUEL, 0, 0);
        Gate costly = bench.gate(Ops.COST, 15, Ops.JUMP, 0);
        costly.run(MAX, FuelGate.NO_FUEL);
        costly.stands(FuelGate.NO_FUEL, 11, 0);
    }

    private static void runNotSound(Bench bench) {
        Scenes.inEach(scene -> bench.changesNothing(scene, gate -> {
            for (int fuel : Bench.ANY) {
                gate.run(fuel, FuelGate.NOT_SOUND);
            }
            gate.noRun();
            gate.cells(5, MIN, MAX, -1);
        }), Scenes.NOT_SOUND);
    }

    private static void runBeginsAnew(Bench bench) {
        Scenes.inEach(scene -> {
            Gate gate = bench.inScene(scene);
            gate.run(0, FuelGate.NO_FUEL);
            gate.stands(FuelGate.NO_FUEL, 0, 0);
            gate.run(MIN, FuelGate.NO_FUEL);
            gate.stands(FuelGate.NO_FUEL, 0, 0);
            gate.run(MAX, FuelGate.STOPPED);
            gate.run(-1, FuelGate.NO_FUEL);
            gate.stands(FuelGate.NO_FUEL, 0, 0);
        }, Scenes.SOUND_WITHOUT_RUN, Scenes.HALTED, Scenes.STOPPED);
    }

    /** One short, just enough and one more, for an instruction that costs 1, one that costs 3 and one that costs 16. */
    private static void haltsBefore(Bench bench) {
        int[][] instructions = {{Ops.ADD, 0, 1, 9}, {Ops.MUL, 0, 3, 20}, {Ops.COST, 15, 16, 5}, {Ops.SET, 2, 1, 4}};
        for (int[] part : instructions) {
            int cost = part[2];
            for (int fuel = 0; fuel < cost; fuel++) {
                Gate less = bench.gate(Ops.PUSH, 4, Ops.PUSH, 5, part[0], part[1], Ops.STOP, 0);
                less.run(2 + fuel, FuelGate.NO_FUEL);
                less.stands(FuelGate.NO_FUEL, fuel, 2, 5, 4);
                less.cells(0, 0, 0, 0);
            }
            Gate enough = bench.gate(Ops.PUSH, 4, Ops.PUSH, 5, part[0], part[1], Ops.STOP, 0);
            enough.run(2 + cost, FuelGate.NO_FUEL);
            enough.fuel(0);
            enough.place(3);
            enough.top(0, part[3]);
            enough.get(2, part[0] == Ops.SET ? 5 : 0);
            enough.run(2 + cost + 1, FuelGate.STOPPED);
            enough.fuel(0);
            enough.place(3);
            enough.top(0, part[3]);
        }
    }

    private static void stopCosts(Bench bench) {
        Gate gate = bench.gate(Ops.PUSH, 6, Ops.STOP, 15);
        gate.run(1, FuelGate.NO_FUEL);
        gate.stands(FuelGate.NO_FUEL, 0, 1, 6);
        gate.run(2, FuelGate.STOPPED);
        gate.stands(FuelGate.STOPPED, 0, 1, 6);
        gate.run(3, FuelGate.STOPPED);
        gate.stands(FuelGate.STOPPED, 1, 1, 6);
        gate.run(1, FuelGate.NO_FUEL);
        gate.refuel(0, FuelGate.NO_FUEL);
        gate.stands(FuelGate.NO_FUEL, 0, 1, 6);
        gate.refuel(1, FuelGate.STOPPED);
        gate.stands(FuelGate.STOPPED, 0, 1, 6);
    }

    private static void refuelBounds(Bench bench) {
        for (int k = 0; k < ASKED_FUEL.length; k++) {
            Gate gate = bench.gate(Ops.STOP, 0);
            gate.run(0, FuelGate.NO_FUEL);
            boolean enough = GIVEN_FUEL[k] >= 1;
            gate.refuel(ASKED_FUEL[k], enough ? FuelGate.STOPPED : FuelGate.NO_FUEL);
            gate.stands(enough ? FuelGate.STOPPED : FuelGate.NO_FUEL, enough ? GIVEN_FUEL[k] - 1 : 0, 0);
        }
        int[] nothing = {MIN, -2000, -15, -1, 0};
        for (int more : nothing) {
            Gate kept = bench.gate(Ops.COST, 15, Ops.STOP, 0);
            kept.run(15, FuelGate.NO_FUEL);
            kept.refuel(more, FuelGate.NO_FUEL);
            kept.stands(FuelGate.NO_FUEL, 15, 0);
        }
    }

    private static void refuelAdds(Bench bench) {
        for (int first = 0; first <= 15; first++) {
            Gate gate = bench.gate(Ops.COST, 15, Ops.STOP, 0);
            gate.run(first, FuelGate.NO_FUEL);
            gate.refuel(15 - first, FuelGate.NO_FUEL);
            gate.stands(FuelGate.NO_FUEL, 15, 0);
            gate.refuel(1, FuelGate.NO_FUEL);
            gate.stands(FuelGate.NO_FUEL, 0, 1);
            gate.refuel(3, FuelGate.STOPPED);
            gate.stands(FuelGate.STOPPED, 2, 1);
        }
    }

    private static void refuelAtMost2000(Bench bench) {
        int[] more = {1983, 1984, 1985, 1986, 1987, 1999, 2000, 2001, 4000, MAX - 15, MAX - 1, MAX};
        int[] total = {1998, 1999, 2000, 2000, 2000, 2000, 2000, 2000, 2000, 2000, 2000, 2000};
        for (int k = 0; k < more.length; k++) {
            Gate gate = bench.gate(Ops.COST, 15, Ops.STOP, 0);
            gate.run(15, FuelGate.NO_FUEL);
            gate.refuel(more[k], FuelGate.STOPPED);
            gate.stands(FuelGate.STOPPED, total[k] - 17, 1);
        }
        Gate bit = bench.gate(Ops.COST, 1, Ops.STOP, 0);
        bit.run(1, FuelGate.NO_FUEL);
        bit.refuel(1999, FuelGate.STOPPED);
        bit.fuel(1997);
        bit.run(1, FuelGate.NO_FUEL);
        bit.refuel(2000, FuelGate.STOPPED);
        bit.fuel(1997);
    }

    private static void refuelGoesOn(Bench bench) {
        Gate gate = bench.gate(Ops.PUSH, 4, Ops.PUSH, 6, Ops.MUL, 0, Ops.DUP, 0, Ops.SET, 1, Ops.JUMP, 7, Ops.STOP, 0,
            Ops.GET, 1, Ops.STOP, 0);
        int[] places = {1, 2, 2, 2, 3, 4, 5, 7, 8};
        int[] fuels = {0, 0, 1, 2, 0, 0, 0, 0, 0};
        int[][] stacks = {{4}, {6, 4}, {6, 4}, {6, 4}, {24}, {24, 24}, {24}, {24}, {24, 24}};
        gate.run(0, FuelGate.NO_FUEL);
        gate.stands(FuelGate.NO_FUEL, 0, 0);
        for (int k = 0; k < places.length; k++) {
            gate.refuel(1, FuelGate.NO_FUEL);
            gate.stands(FuelGate.NO_FUEL, fuels[k], places[k], stacks[k]);
            gate.get(1, k < 6 ? 0 : 24);
        }
        gate.refuel(1, FuelGate.STOPPED);
        gate.stands(FuelGate.STOPPED, 0, 8, 24, 24);
        Gate onwards = bench.gate(Ops.GET, 0, Ops.PUSH, 1, Ops.ADD, 0, Ops.SET, 0, Ops.JUMP, 0);
        onwards.run(2, FuelGate.NO_FUEL);
        onwards.refuel(2000, FuelGate.NO_FUEL);
        onwards.stands(FuelGate.NO_FUEL, 0, 2, 1, 400);
    }

    private static void refuelInAnotherState(Bench bench) {
        Scenes.inEach(scene -> bench.changesNothing(scene, gate -> {
            for (int more : Bench.ANY) {
                gate.refuel(more, FuelGate.NONE);
            }
            gate.noRun();
        }), Scenes.NOT_SOUND, Scenes.SOUND_WITHOUT_RUN);
        Scenes.inEach(scene -> bench.changesNothing(scene, gate -> {
            for (int more : Bench.ANY) {
                gate.refuel(more, FuelGate.STOPPED);
            }
        }), Scenes.STOPPED);
    }

    private static void badOpBeforeFull(Bench bench) {
        Scenes.inEach(scene -> {
            Gate gate = bench.inScene(scene);
            gate.emit(-1, 0, FuelGate.BAD_OP);
            gate.emit(0, 0, FuelGate.FULL);
            gate.emit(14, 0, FuelGate.FULL);
            gate.emit(15, 0, FuelGate.BAD_OP);
            gate.emit(MIN, MAX, FuelGate.BAD_OP);
            gate.emit(MAX, MIN, FuelGate.BAD_OP);
        }, Scenes.FULL);
    }
}
