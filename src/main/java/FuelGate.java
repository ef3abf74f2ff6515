/** A gate for small programs of a stack machine: it checks a program before it may run and meters what it carries out. */
public final class FuelGate {
    public static final int BAD_OP = -1;
    public static final int FULL = -2;
    public static final int NOT_SOUND = -3;
    public static final int BAD_PLACE = -4;
    public static final int NONE = 0;
    public static final int STOPPED = 1;
    public static final int NO_FUEL = 2;

    private static final int PUSH = 0;
    private static final int POP = 1;
    private static final int DUP = 2;
    private static final int ADD = 3;
    private static final int SUB = 4;
    private static final int MUL = 5;
    private static final int SWAP = 6;
    private static final int OVER = 7;
    private static final int JUMP = 8;
    private static final int JZERO = 9;
    private static final int JPOS = 10;
    private static final int GET = 11;
    private static final int SET = 12;
    private static final int STOP = 13;
    private static final int COST = 14;

    private static final int MAX_PROGRAM = 24;
    private static final int MAX_STACK = 8;
    private static final int MAX_FUEL = 2000;
    private static final int CELLS = 4;
    private static final int CELL_MASK = 3;
    private static final int COST_MASK = 15;
    private static final int MUL_COST = 3;
    private static final int UNREACHED = -1;

    private final int[] ops = new int[MAX_PROGRAM];
    private final int[] numbers = new int[MAX_PROGRAM];
    private final int[] cells = new int[CELLS];
    private int count;

    // The check is done when the program changes, so that the calls that only ask write nothing.
    private final int[] heights = new int[MAX_PROGRAM];
    private boolean soundNow;

    private final int[] stack = new int[MAX_STACK];
    private int held;
    private int at;
    private int fuelLeft;
    private int runState;

    public FuelGate() {
        dropProgram();
    }

    public int emit(int op, int c) {
        if (op < PUSH || op > COST) {
            return BAD_OP;
        }
        if (count >= MAX_PROGRAM) {
            return FULL;
        }
        int number = count;
        ops[number] = op;
        numbers[number] = c;
        count = number + 1;
        endRun();
        checkProgram();
        return number;
    }

    public void clear() {
        dropProgram();
    }

    public int cell(int i, int value) {
        int old = cells[i & CELL_MASK];
        cells[i & CELL_MASK] = value;
        return old;
    }

    public int run(int fuel) {
        if (!soundNow) {
            return NOT_SOUND;
        }
        held = 0;
        at = 0;
        fuelLeft = allowedFuel(fuel);
        carryOn();
        return runState;
    }

    public int refuel(int more) {
        if (runState == NO_FUEL) {
            // Both parts are at most MAX_FUEL by now, so the sum cannot wrap.
            int sum = fuelLeft + allowedFuel(more);
            fuelLeft = allowedFuel(sum);
            carryOn();
        }
        return runState;
    }

    public boolean sound() {
        return soundNow;
    }

    public int height(int p) {
        if (!soundNow || p < 0 || p >= count || heights[p] == UNREACHED) {
            return BAD_PLACE;
        }
        return heights[p];
    }

    public int state() {
        return runState;
    }

    public int fuel() {
        return fuelLeft;
    }

    public int place() {
        return at;
    }

    public int depth() {
        return held;
    }

    public int top(int i) {
        if (i < 0 || i >= held) {
            return 0;
        }
        return stack[held - 1 - i];
    }

    public int get(int i) {
        return cells[i & CELL_MASK];
    }

    private void dropProgram() {
        count = 0;
        endRun();
        checkProgram();
    }

    // Leaves every field as the state NONE answers it, so that no asking call need look at the state.
    private void endRun() {
        runState = NONE;
        fuelLeft = 0;
        at = BAD_PLACE;
        held = 0;
    }

    private static int allowedFuel(int fuel) {
        if (fuel < 0) {
            return 0;
        }
        return fuel > MAX_FUEL ? MAX_FUEL : fuel;
    }

    // The heights follow from instruction 0 in one way only, so one clash shows that none can be given.
    // Each pass follows all that is reached so far, so as many passes as instructions reach all that can be.
    private void checkProgram() {
        for (int p = 0; p < MAX_PROGRAM; p++) {
            heights[p] = UNREACHED;
        }
        soundNow = true;
        reach(0, 0);
        for (int pass = 0; pass < MAX_PROGRAM; pass++) {
            followReached();
        }
    }

    private void followReached() {
        for (int p = 0; p < MAX_PROGRAM; p++) {
            if (heights[p] != UNREACHED) {
                followFrom(p, ops[p], numbers[p], heights[p]);
            }
        }
    }

    private void followFrom(int p, int op, int c, int height) {
        int behind = height + growth(op);
        if (height < needed(op) || behind > MAX_STACK) {
            soundNow = false;
            return;
        }
        if (op != JUMP && op != STOP) {
            reach(p + 1, behind);
        }
        if (op == JUMP || op == JZERO || op == JPOS) {
            reach(c, behind);
        }
    }

    private void reach(int p, int height) {
        if (p < 0 || p >= count) {
            soundNow = false;
        } else if (heights[p] == UNREACHED) {
            heights[p] = height;
        } else if (heights[p] != height) {
            soundNow = false;
        }
    }

    private static int needed(int op) {
        switch (op) {
            case POP:
            case DUP:
            case JZERO:
            case JPOS:
            case SET:
                return 1;
            case ADD:
            case SUB:
            case MUL:
            case SWAP:
            case OVER:
                return 2;
            default:
                return 0;
        }
    }

    private static int growth(int op) {
        switch (op) {
            case PUSH:
            case DUP:
            case OVER:
            case GET:
                return 1;
            case POP:
            case ADD:
            case SUB:
            case MUL:
            case JZERO:
            case JPOS:
            case SET:
                return -1;
            default:
                return 0;
        }
    }

    private static int costOf(int op, int c) {
        if (op == COST) {
            return (c & COST_MASK) + 1;
        }
        return op == MUL ? MUL_COST : 1;
    }

    // Every instruction costs at least 1, so behind MAX_FUEL of them no fuel can be left.
    private void carryOn() {
        runState = NO_FUEL;
        for (int done = 0; done < MAX_FUEL && at >= 0 && at < count; done++) {
            int op = ops[at];
            int c = numbers[at];
            int cost = costOf(op, c);
            if (fuelLeft < cost) {
                return;
            }
            fuelLeft -= cost;
            if (op == STOP) {
                runState = STOPPED;
                return;
            }
            carryOut(op, c);
        }
    }

    private void carryOut(int op, int c) {
        int next = at + 1;
        switch (op) {
            case PUSH:
                put(c);
                break;
            case GET:
                put(cells[c & CELL_MASK]);
                break;
            case POP:
                take();
                break;
            case SET:
                cells[c & CELL_MASK] = take();
                break;
            case DUP:
                duplicate();
                break;
            case JUMP:
                next = c;
                break;
            case JZERO:
                next = take() == 0 ? c : next;
                break;
            case JPOS:
                next = take() > 0 ? c : next;
                break;
            case COST:
                break;
            default:
                carryOutOnTwo(op);
                break;
        }
        at = next;
    }

    private void duplicate() {
        int x = take();
        put(x);
        put(x);
    }

    private void carryOutOnTwo(int op) {
        int y = take();
        int x = take();
        switch (op) {
            case ADD:
                put(x + y);
                break;
            case SUB:
                put(x - y);
                break;
            case MUL:
                put(x * y);
                break;
            case SWAP:
                put(y);
                put(x);
                break;
            case OVER:
                put(x);
                put(y);
                put(x);
                break;
            default:
                break;
        }
    }

    // A sound program never meets the bounds in put and take; they stand so that no index goes unlooked at.
    private void put(int value) {
        if (held >= 0 && held < MAX_STACK) {
            stack[held] = value;
            held++;
        }
    }

    private int take() {
        if (held <= 0 || held > MAX_STACK) {
            return 0;
        }
        held--;
        return stack[held];
    }
}
