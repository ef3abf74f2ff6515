/** One method or more for each promise of the document, the promise's number in its name. */
public final class PromisesTest {
    private static final int MIN = Integer.MIN_VALUE;
    private static final int MAX = Integer.MAX_VALUE;

    public static void main(String[] args) {
        promise1NewObject();
        promise2Numbers();
        promise2Refusals();
        promise2EndsTheRun();
        promise3Clear();
        promise4Cell();
        promise5Instructions();
        promise5Wrap();
        promise5Jumps();
        promise5Cells();
        promise5Costs();
        promise5FuelBounds();
        promise5HaltsBefore();
        promise5NotSound();
        promise5BeginsAnew();
        promise6GoesOn();
        promise6Bounds();
        promise6OtherStates();
        promise7Needs();
        promise7Ceiling();
        promise7Next();
        promise7Clash();
        promise7Reached();
        promise8Height();
        promise9State();
        promise10Fuel();
        promise11Place();
        promise12Depth();
        promise13Top();
        promise14Get();
        promise15Order();
        askingChangesNothing();
        objectsStandAlone();
        Due.end();
    }

    private static void noRun(String where, FuelGate gate) {
        Due.is(where + ": state()", gate.state(), FuelGate.NONE);
        Due.is(where + ": fuel()", gate.fuel(), 0);
        Due.is(where + ": place()", gate.place(), FuelGate.BAD_PLACE);
        Due.is(where + ": depth()", gate.depth(), 0);
        for (int i = 0; i < 9; i++) {
            Due.is(where + ": top(" + i + ")", gate.top(i), 0);
        }
        Due.is(where + ": refuel(9)", gate.refuel(9), FuelGate.NONE);
        Due.is(where + ": fuel() behind refuel", gate.fuel(), 0);
    }

    private static void halted(String where, FuelGate gate, int state, int fuel, int place, int... stackFromTop) {
        Due.is(where + ": state()", gate.state(), state);
        Due.is(where + ": fuel()", gate.fuel(), fuel);
        Due.is(where + ": place()", gate.place(), place);
        Due.is(where + ": depth()", gate.depth(), stackFromTop.length);
        for (int i = 0; i < stackFromTop.length; i++) {
            Due.is(where + ": top(" + i + ")", gate.top(i), stackFromTop[i]);
        }
        Due.is(where + ": top below the stack", gate.top(stackFromTop.length), 0);
    }

    private static void cells(String where, FuelGate gate, int... values) {
        for (int i = 0; i < 4; i++) {
            Due.is(where + ": get(" + i + ")", gate.get(i), values[i]);
        }
    }

    private static void sound(String where, boolean want, int... opsAndNumbers) {
        Due.is(where + ": sound()", Ops.program(opsAndNumbers).sound(), want);
    }

    private static void promise1NewObject() {
        FuelGate gate = new FuelGate();
        noRun("new", gate);
        cells("new", gate, 0, 0, 0, 0);
        Due.is("new: sound()", gate.sound(), false);
        Due.is("new: height(0)", gate.height(0), FuelGate.BAD_PLACE);
        Due.is("new: run(5)", gate.run(5), FuelGate.NOT_SOUND);
        noRun("new, behind run", gate);
        Due.is("new: emit", gate.emit(Ops.STOP, 0), 0);
    }

    private static void promise2Numbers() {
        FuelGate gate = new FuelGate();
        for (int k = 0; k < 24; k++) {
            Due.is("emit number " + k, gate.emit(k % 15, k - 9), k);
        }
        Due.is("emit behind 24", gate.emit(Ops.STOP, 0), FuelGate.FULL);
        Due.is("emit behind 24, again", gate.emit(Ops.PUSH, 1), FuelGate.FULL);
        gate.clear();
        Due.is("emit behind clear", gate.emit(Ops.STOP, 0), 0);
    }

    private static void promise2Refusals() {
        int[] wrongOps = {-1, 15, 16, 29, 256, -15, MIN, MAX};
        FuelGate gate = Ops.program(Ops.PUSH, 7, Ops.COST, 15, Ops.STOP, 0);
        gate.run(10);
        for (int op : wrongOps) {
            Due.is("emit(" + op + ", 0)", gate.emit(op, 0), FuelGate.BAD_OP);
            halted("behind emit(" + op + ", 0)", gate, FuelGate.NO_FUEL, 9, 1, 7);
        }
        Due.is("refuel behind BAD_OP", gate.refuel(8), FuelGate.STOPPED);
        Due.is("emit behind BAD_OP", gate.emit(Ops.STOP, 0), 3);

        FuelGate full = fullOfPushes();
        full.run(3);
        Due.is("emit to a full program", full.emit(Ops.POP, 0), FuelGate.FULL);
        halted("behind FULL", full, FuelGate.NO_FUEL, 0, 3, 1);
        Due.is("sound() behind FULL", full.sound(), true);
        Due.is("refuel behind FULL", full.refuel(2000), FuelGate.STOPPED);
        halted("behind FULL and refuel", full, FuelGate.STOPPED, 1979, 23, 1);
    }

    /** 24 instructions: a PUSH and a POP by turns, eleven of each, then PUSH and STOP. */
    private static FuelGate fullOfPushes() {
        FuelGate gate = new FuelGate();
        for (int k = 0; k < 11; k++) {
            Ops.append(gate, Ops.PUSH, k, Ops.POP, 0);
        }
        Ops.append(gate, Ops.PUSH, 1, Ops.STOP, 0);
        return gate;
    }

    private static void promise2EndsTheRun() {
        FuelGate gate = Ops.program(Ops.PUSH, 7, Ops.SET, 2, Ops.PUSH, 8, Ops.STOP, 0);
        gate.run(3);
        Due.is("emit in NO_FUEL", gate.emit(Ops.STOP, 0), 4);
        noRun("behind emit in NO_FUEL", gate);
        cells("behind emit in NO_FUEL", gate, 0, 0, 7, 0);
        gate.run(30);
        Due.is("emit in STOPPED", gate.emit(Ops.STOP, 0), 5);
        noRun("behind emit in STOPPED", gate);
    }

    private static void promise3Clear() {
        FuelGate gate = Ops.program(Ops.PUSH, 7, Ops.SET, 3, Ops.PUSH, 8, Ops.STOP, 0);
        gate.run(3);
        gate.clear();
        noRun("clear in NO_FUEL", gate);
        cells("clear in NO_FUEL", gate, 0, 0, 0, 7);
        Due.is("clear: sound()", gate.sound(), false);
        Due.is("clear: height(0)", gate.height(0), FuelGate.BAD_PLACE);
        Due.is("clear: run(9)", gate.run(9), FuelGate.NOT_SOUND);
        Due.is("clear: emit", gate.emit(Ops.COST, 0), 0);
        Due.is("clear: no old instruction counts", gate.sound(), false);
        Due.is("clear: emit the next", gate.emit(Ops.STOP, 0), 1);
        Due.is("clear: run", gate.run(9), FuelGate.STOPPED);
        halted("clear: the new program", gate, FuelGate.STOPPED, 7, 1);
        gate.clear();
        noRun("clear in STOPPED", gate);
        gate.clear();
        noRun("clear twice", gate);
        cells("clear twice", gate, 0, 0, 0, 7);
    }

    private static void promise4Cell() {
        FuelGate gate = new FuelGate();
        Due.is("cell(0, 5)", gate.cell(0, 5), 0);
        Due.is("cell(1, -6)", gate.cell(1, -6), 0);
        Due.is("cell(-1, MAX)", gate.cell(-1, MAX), 0);
        Due.is("cell(6, MIN)", gate.cell(6, MIN), 0);
        cells("set one by one", gate, 5, -6, MIN, MAX);
        Due.is("cell(4, 9)", gate.cell(4, 9), 5);
        Due.is("cell(MIN, 10)", gate.cell(MIN, 10), 9);
        Due.is("cell(MAX, 11)", gate.cell(MAX, 11), MAX);
        Due.is("cell(-2, 12)", gate.cell(-2, 12), MIN);
        Due.is("cell(-3, 13)", gate.cell(-3, 13), -6);
        cells("set by i & 3", gate, 10, 13, 12, 11);

        FuelGate running = Ops.program(Ops.PUSH, 1, Ops.GET, 2, Ops.STOP, 0);
        running.run(1);
        Due.is("cell in a run", running.cell(2, 44), 0);
        halted("cell in a run", running, FuelGate.NO_FUEL, 0, 1, 1);
        running.refuel(2);
        halted("the run sees the cell", running, FuelGate.STOPPED, 0, 2, 44, 1);
        Due.is("cell behind STOP", running.cell(2, 45), 44);
        halted("cell behind STOP", running, FuelGate.STOPPED, 0, 2, 44, 1);
    }

    /** Runs the program behind pushes of 5, 3 and 2 and looks at what is on the stack. */
    private static void instruction(String name, int op, int c, int... stackFromTop) {
        FuelGate gate = Ops.program(Ops.PUSH, 5, Ops.PUSH, 3, Ops.PUSH, 2, op, c, Ops.STOP, 0);
        Due.is(name + ": run", gate.run(2000), FuelGate.STOPPED);
        int cost = op == Ops.MUL ? 3 : op == Ops.COST ? (c & 15) + 1 : 1;
        halted(name, gate, FuelGate.STOPPED, 2000 - 4 - cost, 4, stackFromTop);
    }

    private static void promise5Instructions() {
        instruction("PUSH", Ops.PUSH, -9, -9, 2, 3, 5);
        instruction("PUSH MIN", Ops.PUSH, MIN, MIN, 2, 3, 5);
        instruction("POP", Ops.POP, 1, 3, 5);
        instruction("DUP", Ops.DUP, 1, 2, 2, 3, 5);
        instruction("ADD", Ops.ADD, 1, 5, 5);
        instruction("SUB", Ops.SUB, 1, 1, 5);
        instruction("MUL", Ops.MUL, 1, 6, 5);
        instruction("SWAP", Ops.SWAP, 1, 3, 2, 5);
        instruction("OVER", Ops.OVER, 1, 3, 2, 3, 5);
        instruction("JUMP", Ops.JUMP, 4, 2, 3, 5);
        instruction("JZERO", Ops.JZERO, 4, 3, 5);
        instruction("JPOS", Ops.JPOS, 4, 3, 5);
        instruction("GET", Ops.GET, 1, 0, 2, 3, 5);
        instruction("SET", Ops.SET, 1, 3, 5);
        instruction("COST", Ops.COST, 6, 2, 3, 5);
    }

    private static void twoNumbers(String name, int x, int y, int op, int want) {
        FuelGate gate = Ops.program(Ops.PUSH, x, Ops.PUSH, y, op, 0, Ops.STOP, 0);
        gate.run(2000);
        Due.is(name + " of " + x + " and " + y, gate.top(0), want);
    }

    private static void promise5Wrap() {
        twoNumbers("ADD", MAX, 1, Ops.ADD, MIN);
        twoNumbers("ADD", MIN, -1, Ops.ADD, MAX);
        twoNumbers("SUB", MIN, 1, Ops.SUB, MAX);
        twoNumbers("SUB", 0, MIN, Ops.SUB, MIN);
        twoNumbers("MUL", 65536, 65536, Ops.MUL, 0);
        twoNumbers("MUL", MIN, -1, Ops.MUL, MIN);
        twoNumbers("MUL", 123456789, 987654321, Ops.MUL, 123456789 * 987654321);
    }

    private static void jump(int value, int op, int wantPlace) {
        FuelGate gate = Ops.program(Ops.PUSH, value, op, 3, Ops.STOP, 0, Ops.STOP, 0);
        Due.is("jump " + op + " on " + value, gate.run(9), FuelGate.STOPPED);
        halted("jump " + op + " on " + value, gate, FuelGate.STOPPED, 6, wantPlace);
    }

    private static void promise5Jumps() {
        jump(0, Ops.JZERO, 3);
        jump(1, Ops.JZERO, 2);
        jump(-1, Ops.JZERO, 2);
        jump(MIN, Ops.JZERO, 2);
        jump(0, Ops.JPOS, 2);
        jump(1, Ops.JPOS, 3);
        jump(MAX, Ops.JPOS, 3);
        jump(-1, Ops.JPOS, 2);
        jump(MIN, Ops.JPOS, 2);
        FuelGate back = Ops.program(Ops.JUMP, 2, Ops.STOP, 0, Ops.JUMP, 1);
        Due.is("JUMP back", back.run(9), FuelGate.STOPPED);
        halted("JUMP back", back, FuelGate.STOPPED, 6, 1);
    }

    private static void promise5Cells() {
        FuelGate gate = Ops.program(Ops.PUSH, 4, Ops.SET, 7, Ops.PUSH, 5, Ops.SET, -4, Ops.PUSH, 6, Ops.SET, MIN + 1,
            Ops.GET, -1, Ops.GET, MAX - 3, Ops.GET, 9, Ops.GET, 2, Ops.STOP, 0);
        gate.cell(2, 77);
        Due.is("cells: run", gate.run(11), FuelGate.STOPPED);
        halted("cells", gate, FuelGate.STOPPED, 0, 10, 77, 6, 5, 4);
        cells("cells", gate, 5, 6, 77, 4);
    }

    private static void promise5Costs() {
        int[] numbers = {0, 1, 14, 15, 16, 31, -1, -16, MIN, MAX};
        int[] costs = {1, 2, 15, 16, 1, 16, 16, 1, 1, 16};
        for (int k = 0; k < numbers.length; k++) {
            FuelGate gate = Ops.program(Ops.COST, numbers[k], Ops.STOP, 0);
            Due.is("COST " + numbers[k] + ": run one short", gate.run(costs[k] - 1), FuelGate.NO_FUEL);
            halted("COST " + numbers[k] + " one short", gate, FuelGate.NO_FUEL, costs[k] - 1, 0);
            gate.run(costs[k]);
            halted("COST " + numbers[k] + " just enough", gate, FuelGate.NO_FUEL, 0, 1);
        }
        FuelGate mul = Ops.program(Ops.PUSH, 3, Ops.DUP, 0, Ops.MUL, 15, Ops.STOP, 0);
        mul.run(4);
        halted("MUL one short", mul, FuelGate.NO_FUEL, 2, 2, 3, 3);
        mul.run(5);
        halted("MUL just enough", mul, FuelGate.NO_FUEL, 0, 3, 9);
    }

    private static void promise5FuelBounds() {
        int[] asked = {MIN, -2000, -1, 0, 1, 2, 1999, 2000, 2001, 4000, MAX};
        int[] given = {0, 0, 0, 0, 1, 2, 1999, 2000, 2000, 2000, 2000};
        for (int k = 0; k < asked.length; k++) {
            FuelGate gate = Ops.program(Ops.STOP, 0);
            boolean enough = given[k] >= 1;
            Due.is("run(" + asked[k] + ")", gate.run(asked[k]), enough ? FuelGate.STOPPED : FuelGate.NO_FUEL);
            Due.is("fuel() behind run(" + asked[k] + ")", gate.fuel(), enough ? given[k] - 1 : 0);
        }
        FuelGate endless = Ops.program(Ops.GET, 0, Ops.PUSH, 1, Ops.ADD, 0, Ops.SET, 0, Ops.JUMP, 0);
        Due.is("endless: run(MAX)", endless.run(MAX), FuelGate.NO_FUEL);
        halted("endless", endless, FuelGate.NO_FUEL, 0, 0);
        Due.is("endless: rounds", endless.get(0), 400);
        Due.is("endless: refuel(MAX)", endless.refuel(MAX), FuelGate.NO_FUEL);
        Due.is("endless: more rounds", endless.get(0), 800);
        Due.is("endless: run(1998)", endless.run(1998), FuelGate.NO_FUEL);
        halted("endless, part of a round", endless, FuelGate.NO_FUEL, 0, 3, 1200);
    }

    private static void promise5HaltsBefore() {
        FuelGate gate = Ops.program(Ops.PUSH, 4, Ops.SET, 0, Ops.PUSH, 6, Ops.STOP, 0);
        int[] places = {0, 1, 2, 3};
        int[][] stacks = {{}, {4}, {}, {6}};
        for (int fuel = 0; fuel < 4; fuel++) {
            gate.cell(0, -1);
            Due.is("run(" + fuel + ")", gate.run(fuel), FuelGate.NO_FUEL);
            halted("run(" + fuel + ")", gate, FuelGate.NO_FUEL, 0, places[fuel], stacks[fuel]);
            Due.is("get(0) behind run(" + fuel + ")", gate.get(0), fuel < 2 ? -1 : 4);
        }
        Due.is("run(4), STOP costs too", gate.run(4), FuelGate.STOPPED);
        halted("run(4)", gate, FuelGate.STOPPED, 0, 3, 6);
    }

    private static void promise5NotSound() {
        FuelGate gate = Ops.program(Ops.PUSH, 4, Ops.SET, 0, Ops.POP, 0, Ops.STOP, 0);
        gate.cell(0, 9);
        Due.is("run of a program that is not sound", gate.run(100), FuelGate.NOT_SOUND);
        noRun("behind NOT_SOUND", gate);
        cells("behind NOT_SOUND", gate, 9, 0, 0, 0);
        Due.is("run(-1) of a program that is not sound", gate.run(-1), FuelGate.NOT_SOUND);
    }

    private static void promise5BeginsAnew() {
        FuelGate gate = Ops.program(Ops.GET, 1, Ops.PUSH, 1, Ops.ADD, 0, Ops.SET, 1, Ops.PUSH, 9, Ops.STOP, 0);
        gate.run(2);
        Due.is("run in NO_FUEL", gate.run(3), FuelGate.NO_FUEL);
        halted("run in NO_FUEL", gate, FuelGate.NO_FUEL, 0, 3, 1);
        Due.is("run in NO_FUEL, to the end", gate.run(10), FuelGate.STOPPED);
        halted("run in NO_FUEL, to the end", gate, FuelGate.STOPPED, 4, 5, 9);
        Due.is("run in STOPPED", gate.run(10), FuelGate.STOPPED);
        halted("run in STOPPED", gate, FuelGate.STOPPED, 4, 5, 9);
        Due.is("cells stay from run to run", gate.get(1), 2);
    }

    private static void promise6GoesOn() {
        FuelGate gate = Ops.program(Ops.PUSH, 4, Ops.PUSH, 6, Ops.MUL, 0, Ops.SET, 1, Ops.STOP, 0);
        gate.run(3);
        halted("before refuel", gate, FuelGate.NO_FUEL, 1, 2, 6, 4);
        Due.is("refuel(1)", gate.refuel(1), FuelGate.NO_FUEL);
        halted("refuel(1)", gate, FuelGate.NO_FUEL, 2, 2, 6, 4);
        Due.is("refuel(1) again", gate.refuel(1), FuelGate.NO_FUEL);
        halted("refuel(1) again", gate, FuelGate.NO_FUEL, 0, 3, 24);
        Due.is("refuel(5)", gate.refuel(5), FuelGate.STOPPED);
        halted("refuel(5)", gate, FuelGate.STOPPED, 3, 4);
        Due.is("get(1)", gate.get(1), 24);
    }

    private static void promise6Bounds() {
        int[] more = {MIN, -2000, -1, 0, 1, 2, 1984, 1985, 1986, 2000, 2001, MAX};
        int[] total = {15, 15, 15, 15, 16, 17, 1999, 2000, 2000, 2000, 2000, 2000};
        for (int k = 0; k < more.length; k++) {
            FuelGate gate = Ops.program(Ops.COST, 15, Ops.STOP, 0);
            gate.run(15);
            int state = total[k] >= 17 ? FuelGate.STOPPED : FuelGate.NO_FUEL;
            int left = total[k] >= 17 ? total[k] - 17 : total[k] >= 16 ? total[k] - 16 : total[k];
            Due.is("refuel(" + more[k] + ")", gate.refuel(more[k]), state);
            halted("refuel(" + more[k] + ")", gate, state, left, total[k] >= 16 ? 1 : 0);
        }
    }

    private static void promise6OtherStates() {
        FuelGate gate = Ops.program(Ops.PUSH, 4, Ops.STOP, 0);
        Due.is("refuel in NONE", gate.refuel(50), FuelGate.NONE);
        noRun("refuel in NONE", gate);
        gate.run(5);
        Due.is("refuel in STOPPED", gate.refuel(50), FuelGate.STOPPED);
        halted("refuel in STOPPED", gate, FuelGate.STOPPED, 3, 1, 4);
        Due.is("refuel(-50) in STOPPED", gate.refuel(-50), FuelGate.STOPPED);
        halted("refuel(-50) in STOPPED", gate, FuelGate.STOPPED, 3, 1, 4);
    }

    /** The program op, STOP behind so many pushes; jumps go to the STOP. */
    private static FuelGate behindPushes(int pushes, int op) {
        FuelGate gate = new FuelGate();
        for (int k = 0; k < pushes; k++) {
            gate.emit(Ops.PUSH, k);
        }
        Ops.append(gate, op, pushes + 1, Ops.STOP, 0);
        return gate;
    }

    private static void promise7Needs() {
        int[] needs = {0, 1, 1, 2, 2, 2, 2, 2, 0, 1, 1, 0, 1, 0, 0};
        for (int op = 0; op < 15; op++) {
            for (int pushes = 0; pushes < 4; pushes++) {
                boolean want = pushes >= needs[op];
                Due.is("op " + op + " at height " + pushes + ": sound()", behindPushes(pushes, op).sound(), want);
            }
        }
    }

    private static void promise7Ceiling() {
        for (int op = 0; op < 15; op++) {
            boolean grows = op == Ops.PUSH || op == Ops.DUP || op == Ops.OVER || op == Ops.GET;
            Due.is("op " + op + " at height 7: sound()", behindPushes(7, op).sound(), true);
            Due.is("op " + op + " at height 8: sound()", behindPushes(8, op).sound(), !grows);
            Due.is("op " + op + " at height 9: sound()", behindPushes(9, op).sound(), false);
        }
        FuelGate gate = behindPushes(8, Ops.COST);
        Due.is("a run at height 8", gate.run(2000), FuelGate.STOPPED);
        halted("a run at height 8", gate, FuelGate.STOPPED, 1981, 9, 7, 6, 5, 4, 3, 2, 1, 0);
    }

    private static void promise7Next() {
        sound("no instructions", false);
        sound("STOP alone", true, Ops.STOP, 0);
        sound("JUMP to itself", true, Ops.JUMP, 0);
        sound("no STOP at the end", false, Ops.COST, 0);
        sound("JZERO at the end", false, Ops.PUSH, 0, Ops.JZERO, 0);
        sound("JPOS at the end", false, Ops.PUSH, 1, Ops.JPOS, 0);
        sound("STOP first, end not reached", true, Ops.STOP, 0, Ops.PUSH, 0);
        int[] outside = {-1, 4, 5, 24, 25, 256, -256, MIN, MAX};
        for (int c : outside) {
            sound("JUMP " + c, false, Ops.PUSH, 0, Ops.JUMP, c, Ops.STOP, 0, Ops.STOP, 0);
            sound("JZERO " + c, false, Ops.PUSH, 1, Ops.JZERO, c, Ops.STOP, 0, Ops.STOP, 0);
            sound("JPOS " + c, false, Ops.PUSH, 0, Ops.JPOS, c, Ops.STOP, 0, Ops.STOP, 0);
            sound("PUSH " + c, true, Ops.PUSH, c, Ops.JUMP, 3, Ops.STOP, 0, Ops.STOP, 0);
        }
        FuelGate late = Ops.program(Ops.JUMP, 1);
        Due.is("JUMP ahead of the program: sound()", late.sound(), false);
        late.emit(Ops.STOP, 0);
        Due.is("JUMP into what came later: sound()", late.sound(), true);
        FuelGate full = fullOfPushes();
        Due.is("24 instructions with STOP at the end: sound()", full.sound(), true);
        FuelGate dropped = Ops.program(Ops.STOP, 0, Ops.STOP, 0);
        dropped.clear();
        dropped.emit(Ops.COST, 0);
        Due.is("on into a STOP that was dropped: sound()", dropped.sound(), false);
        dropped.clear();
        dropped.emit(Ops.JUMP, 1);
        Due.is("JUMP to a STOP that was dropped: sound()", dropped.sound(), false);
    }

    private static void promise7Clash() {
        sound("JZERO, ways of two heights", false, Ops.PUSH, 0, Ops.JZERO, 3, Ops.PUSH, 1, Ops.STOP, 0);
        sound("JPOS, ways of two heights", false, Ops.PUSH, 0, Ops.JPOS, 3, Ops.PUSH, 1, Ops.STOP, 0);
        sound("JZERO, ways of one height", true, Ops.PUSH, 0, Ops.JZERO, 3, Ops.COST, 1, Ops.STOP, 0);
        sound("JZERO to the next", true, Ops.PUSH, 0, Ops.JZERO, 2, Ops.STOP, 0);
        sound("a loop that grows", false, Ops.PUSH, 0, Ops.JUMP, 0);
        sound("a loop that shrinks", false, Ops.PUSH, 0, Ops.PUSH, 0, Ops.POP, 0, Ops.POP, 0, Ops.JUMP, 1);
        sound("a loop back to 0 at height 0", true, Ops.PUSH, 0, Ops.POP, 0, Ops.JUMP, 0);
        sound("a loop back to 0 at height 1", false, Ops.PUSH, 0, Ops.PUSH, 0, Ops.POP, 0, Ops.JUMP, 0);
        sound("a loop at height 1", true, Ops.PUSH, 3, Ops.PUSH, 1, Ops.SUB, 0, Ops.DUP, 0, Ops.JPOS, 1, Ops.STOP, 0);
    }

    private static void promise7Reached() {
        sound("POP of nothing, not reached", true, Ops.JUMP, 2, Ops.POP, 0, Ops.STOP, 0);
        sound("POP of nothing, reached", false, Ops.JUMP, 1, Ops.POP, 0, Ops.STOP, 0);
        sound("JUMP outside, not reached", true, Ops.STOP, 0, Ops.JUMP, 99);
        sound("a clash, not reached", true, Ops.STOP, 0, Ops.PUSH, 0, Ops.JUMP, 1);
        sound("reached by a way never gone", false, Ops.PUSH, 1, Ops.JZERO, 3, Ops.STOP, 0, Ops.POP, 0, Ops.STOP, 0);
        FuelGate chain = Ops.program(Ops.JUMP, 23, Ops.STOP, 0);
        for (int p = 2; p < 24; p++) {
            chain.emit(Ops.JUMP, p - 1);
        }
        Due.is("jumps from the end to the front: sound()", chain.sound(), true);
        Due.is("jumps from the end to the front: run", chain.run(2000), FuelGate.STOPPED);
        halted("jumps from the end to the front", chain, FuelGate.STOPPED, 1976, 1);
        FuelGate broken = Ops.program(Ops.JUMP, 23, Ops.POP, 0);
        for (int p = 2; p < 24; p++) {
            broken.emit(Ops.JUMP, p - 1);
        }
        Due.is("a fault reached last of all: sound()", broken.sound(), false);
    }

    private static void promise8Height() {
        FuelGate gate = Ops.program(Ops.PUSH, 1, Ops.PUSH, 2, Ops.OVER, 0, Ops.JZERO, 6, Ops.ADD, 0, Ops.STOP, 0,
            Ops.SWAP, 0, Ops.MUL, 0, Ops.JUMP, 5, Ops.DUP, 0);
        int[] want = {0, 1, 2, 3, 2, 1, 2, 2, 1, FuelGate.BAD_PLACE};
        for (int p = 0; p < want.length; p++) {
            Due.is("height(" + p + ")", gate.height(p), want[p]);
        }
        int[] outside = {-1, 10, 23, 24, 25, MIN, MAX};
        for (int p : outside) {
            Due.is("height(" + p + ")", gate.height(p), FuelGate.BAD_PLACE);
        }
        FuelGate unsound = Ops.program(Ops.PUSH, 1, Ops.STOP, 0);
        Due.is("height(1) while sound", unsound.height(1), 1);
        unsound.clear();
        Ops.append(unsound, Ops.PUSH, 1, Ops.POP, 0);
        for (int p = -1; p < 25; p++) {
            Due.is("height(" + p + ") of a program that is not sound", unsound.height(p), FuelGate.BAD_PLACE);
        }
        unsound.emit(Ops.STOP, 0);
        Due.is("height(2) when it has become sound", unsound.height(2), 0);
        Due.is("height(8) at the ceiling", behindPushes(8, Ops.COST).height(8), 8);
        Due.is("height(23) of 24", fullOfPushes().height(23), 1);
        Due.is("height(24) of 24", fullOfPushes().height(24), FuelGate.BAD_PLACE);
    }

    private static void promise9State() {
        FuelGate gate = Ops.program(Ops.STOP, 0);
        Due.is("state() before a run", gate.state(), FuelGate.NONE);
        gate.run(0);
        Due.is("state() for want of fuel", gate.state(), FuelGate.NO_FUEL);
        gate.refuel(1);
        Due.is("state() behind STOP", gate.state(), FuelGate.STOPPED);
        gate.run(0);
        Due.is("state() for want of fuel again", gate.state(), FuelGate.NO_FUEL);
        gate.clear();
        Due.is("state() behind clear", gate.state(), FuelGate.NONE);
    }

    private static void promise10Fuel() {
        FuelGate gate = Ops.program(Ops.COST, 9, Ops.STOP, 0);
        Due.is("fuel() before a run", gate.fuel(), 0);
        gate.run(9);
        Due.is("fuel() in NO_FUEL", gate.fuel(), 9);
        gate.refuel(20);
        Due.is("fuel() in STOPPED", gate.fuel(), 18);
        gate.emit(Ops.STOP, 0);
        Due.is("fuel() behind emit", gate.fuel(), 0);
        gate.run(40);
        gate.clear();
        Due.is("fuel() behind clear", gate.fuel(), 0);
    }

    private static void promise11Place() {
        FuelGate gate = Ops.program(Ops.JUMP, 2, Ops.STOP, 0, Ops.COST, 3, Ops.JUMP, 1);
        int[] want = {0, 2, 2, 2, 2, 3, 1, 1};
        Due.is("place() before a run", gate.place(), FuelGate.BAD_PLACE);
        for (int fuel = 0; fuel < want.length; fuel++) {
            gate.run(fuel);
            Due.is("place() behind run(" + fuel + ")", gate.place(), want[fuel]);
        }
        gate.emit(Ops.STOP, 0);
        Due.is("place() behind emit", gate.place(), FuelGate.BAD_PLACE);
    }

    private static void promise12Depth() {
        FuelGate gate = behindPushes(8, Ops.POP);
        int[] want = {0, 1, 2, 3, 4, 5, 6, 7, 8, 7, 7};
        Due.is("depth() before a run", gate.depth(), 0);
        for (int fuel = 0; fuel < want.length; fuel++) {
            gate.run(fuel);
            Due.is("depth() behind run(" + fuel + ")", gate.depth(), want[fuel]);
        }
        gate.clear();
        Due.is("depth() behind clear", gate.depth(), 0);
    }

    private static void promise13Top() {
        FuelGate gate = Ops.program(Ops.PUSH, 10, Ops.PUSH, 20, Ops.PUSH, 30, Ops.POP, 0, Ops.STOP, 0);
        int[] outside = {-1, 2, 3, 7, 8, 9, MIN, MAX};
        Due.is("top(0) before a run", gate.top(0), 0);
        gate.run(4);
        Due.is("top(0) in NO_FUEL", gate.top(0), 20);
        Due.is("top(1) in NO_FUEL", gate.top(1), 10);
        gate.refuel(1);
        Due.is("top(0) in STOPPED", gate.top(0), 20);
        Due.is("top(1) in STOPPED", gate.top(1), 10);
        for (int i : outside) {
            Due.is("top(" + i + ")", gate.top(i), 0);
        }
        gate.emit(Ops.STOP, 0);
        Due.is("top(0) behind emit", gate.top(0), 0);
    }

    private static void promise14Get() {
        FuelGate gate = new FuelGate();
        for (int i = 0; i < 4; i++) {
            gate.cell(i, 100 + i);
        }
        int[] asked = {0, 1, 2, 3, 4, 7, -1, -2, -3, -4, MIN, MAX};
        int[] want = {100, 101, 102, 103, 100, 103, 103, 102, 101, 100, 100, 103};
        for (int k = 0; k < asked.length; k++) {
            Due.is("get(" + asked[k] + ")", gate.get(asked[k]), want[k]);
        }
    }

    private static void promise15Order() {
        FuelGate full = fullOfPushes();
        int[] wrongOps = {-1, 15, MIN, MAX};
        for (int op : wrongOps) {
            Due.is("emit(" + op + ", 0) to a full program", full.emit(op, 0), FuelGate.BAD_OP);
        }
        Due.is("emit(14, 0) to a full program", full.emit(14, 0), FuelGate.FULL);
        Due.is("emit(0, 0) to a full program", full.emit(0, 0), FuelGate.FULL);
    }

    private static void askingChangesNothing() {
        FuelGate gate = Ops.program(Ops.PUSH, 4, Ops.COST, 9, Ops.SET, 1, Ops.STOP, 0);
        gate.run(5);
        for (int round = 0; round < 2; round++) {
            for (int i = -2; i < 6; i++) {
                gate.height(i);
                gate.top(i);
                gate.get(i);
            }
            Due.is("asked: sound()", gate.sound(), true);
            halted("asked, round " + round, gate, FuelGate.NO_FUEL, 4, 1, 4);
            Due.is("asked: height(2)", gate.height(2), 1);
            cells("asked, round " + round, gate, 0, 0, 0, 0);
        }
        Due.is("asked: refuel(8)", gate.refuel(8), FuelGate.STOPPED);
        cells("asked and gone on", gate, 0, 4, 0, 0);
    }

    private static void objectsStandAlone() {
        FuelGate one = Ops.program(Ops.PUSH, 4, Ops.STOP, 0);
        one.cell(0, 3);
        one.run(1);
        FuelGate other = new FuelGate();
        noRun("another object", other);
        cells("another object", other, 0, 0, 0, 0);
        other.emit(Ops.POP, 0);
        halted("the first object", one, FuelGate.NO_FUEL, 0, 1, 4);
        Due.is("the first object: sound()", one.sound(), true);
    }
}
