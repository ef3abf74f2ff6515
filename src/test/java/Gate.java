/** A FuelGate each of whose calls is counted and held against the answer that is due. */
final class Gate {
    private static final int PROGRAM = 24;
    private static final int STACK = 8;
    private static final int CELLS = 4;

    static final String[] ASKING = {"sound", "state", "fuel", "place", "depth", "height", "top", "get"};
    static final String[] CHANGING = {"refuel(1)", "refuel(2000)", "run(7)", "run(2000)", "cell(0, 21)", "cell(3, 22)",
        "emit(13, 0)", "clear()"};

    private final FuelGate gate = new FuelGate();
    private final String where;
    private int calls = 0;
    private int emitted = 0;

    Gate(String where) {
        this.where = where;
    }

    int calls() {
        return calls;
    }

    private void due(String call, long got, long want) {
        calls++;
        Due.is(where + ", call " + calls + ", " + call, got, want);
    }

    void emit(int op, int c, int want) {
        due("emit(" + op + ", " + c + ")", gate.emit(op, c), want);
        emitted += want >= 0 ? 1 : 0;
    }

    /** Appends instructions: op, c, op, c and so on. */
    void program(int... opsAndNumbers) {
        for (int k = 0; k + 1 < opsAndNumbers.length; k += 2) {
            emit(opsAndNumbers[k], opsAndNumbers[k + 1], emitted);
        }
    }

    void times(int times, int op, int c) {
        for (int k = 0; k < times; k++) {
            emit(op, c, emitted);
        }
    }

    void clear() {
        calls++;
        gate.clear();
        emitted = 0;
    }

    void cell(int i, int value, int want) {
        due("cell(" + i + ", " + value + ")", gate.cell(i, value), want);
    }

    void run(int fuel, int want) {
        due("run(" + fuel + ")", gate.run(fuel), want);
    }

    void refuel(int more, int want) {
        due("refuel(" + more + ")", gate.refuel(more), want);
    }

    void sound(boolean want) {
        due("sound()", gate.sound() ? 1 : 0, want ? 1 : 0);
    }

    void height(int p, int want) {
        due("height(" + p + ")", gate.height(p), want);
    }

    void state(int want) {
        due("state()", gate.state(), want);
    }

    void fuel(int want) {
        due("fuel()", gate.fuel(), want);
    }

    void place(int want) {
        due("place()", gate.place(), want);
    }

    void depth(int want) {
        due("depth()", gate.depth(), want);
    }

    void top(int i, int want) {
        due("top(" + i + ")", gate.top(i), want);
    }

    void get(int i, int want) {
        due("get(" + i + ")", gate.get(i), want);
    }

    void cells(int... values) {
        for (int i = 0; i < CELLS; i++) {
            get(i, values[i]);
        }
    }

    void stands(int state, int fuel, int place, int... stackFromTop) {
        state(state);
        fuel(fuel);
        place(place);
        depth(stackFromTop.length);
        for (int i = 0; i <= STACK; i++) {
            top(i, i < stackFromTop.length ? stackFromTop[i] : 0);
        }
    }

    void noRun() {
        stands(FuelGate.NONE, 0, FuelGate.BAD_PLACE);
    }

    /** The asking calls by numbers of their own, so that a test can go through them; i counts where one takes it. */
    private int answer(int asking, int i) {
        switch (asking) {
            case 0: return gate.sound() ? 1 : 0;
            case 1: return gate.state();
            case 2: return gate.fuel();
            case 3: return gate.place();
            case 4: return gate.depth();
            case 5: return gate.height(i);
            case 6: return gate.top(i);
            default: return gate.get(i);
        }
    }

    /** Asks, and lets the answer be what it is. */
    int ask(int asking, int i) {
        calls++;
        return answer(asking, i);
    }

    void answersAs(Gate other, int asking, int i) {
        due(ASKING[asking] + "(" + i + ")", answer(asking, i), other.ask(asking, i));
    }

    /** All that the asking calls answer is the same as the other object answers. */
    void answersAs(Gate other) {
        for (int asking = 0; asking < 5; asking++) {
            answersAs(other, asking, 0);
        }
        for (int p = -1; p <= PROGRAM; p++) {
            answersAs(other, 5, p);
        }
        for (int i = 0; i <= STACK; i++) {
            answersAs(other, 6, i);
        }
        for (int i = 0; i < CELLS; i++) {
            answersAs(other, 7, i);
        }
    }

    /** The calls that change something, by numbers of their own. */
    private int change(int changing) {
        switch (changing) {
            case 0: return gate.refuel(1);
            case 1: return gate.refuel(2000);
            case 2: return gate.run(7);
            case 3: return gate.run(2000);
            case 4: return gate.cell(0, 21);
            case 5: return gate.cell(3, 22);
            case 6: return gate.emit(Ops.STOP, 0);
            default: gate.clear(); return 0;
        }
    }

    /** Both objects are changed by the same call, and answer the same in it and behind it. */
    void changesAs(Gate other, int changing) {
        other.calls++;
        due(CHANGING[changing], change(changing), other.change(changing));
        answersAs(other);
    }

    void goesOnAs(Gate other) {
        answersAs(other);
        for (int changing = 0; changing < CHANGING.length; changing++) {
            changesAs(other, changing);
        }
    }

    /** Makes so many calls, of all kinds, and leaves the object answering as a new one does. */
    void wear(int times) {
        for (int k = 0; k < times - CELLS - 1; k++) {
            wearOnce(k % 48);
        }
        while (calls < times - CELLS) {
            clear();
        }
        for (int i = 0; calls < times; i++) {
            calls++;
            gate.cell(i, 0);
        }
        emitted = 0;
    }

    private void wearOnce(int step) {
        int[] ops = {Ops.PUSH, Ops.PUSH, Ops.PUSH, Ops.DUP, Ops.PUSH, Ops.PUSH, Ops.OVER, Ops.GET, Ops.MUL, Ops.SET,
            Ops.SWAP, Ops.ADD, Ops.COST, Ops.SET, Ops.JZERO, Ops.GET, Ops.PUSH, Ops.COST, Ops.PUSH, Ops.PUSH, Ops.PUSH,
            Ops.STOP, Ops.POP, Ops.JUMP};
        calls++;
        if (step < PROGRAM) {
            gate.emit(ops[step], step + 1);
            return;
        }
        switch (step) {
            case 24: gate.run(9); break;
            case 25: gate.refuel(4); break;
            case 26: gate.height(7); break;
            case 27: gate.refuel(Integer.MAX_VALUE); break;
            case 28: gate.emit(15, 3); break;
            case 29: gate.emit(Ops.STOP, 3); break;
            case 30: gate.top(7); break;
            case 31: gate.refuel(5); break;
            case 32: gate.run(Integer.MIN_VALUE); break;
            case 33: gate.refuel(2000); break;
            case 34: gate.sound(); break;
            case 35: gate.run(21); break;
            case 36: gate.clear(); break;
            case 37: gate.run(5); break;
            case 38: gate.emit(Ops.JUMP, 0); break;
            case 39: gate.run(Integer.MAX_VALUE); break;
            case 40: gate.emit(Ops.POP, -1); break;
            case 41: gate.run(2000); break;
            case 42: gate.refuel(1); break;
            case 47: gate.clear(); break;
            default: gate.cell(step, -step); break;
        }
    }
}
