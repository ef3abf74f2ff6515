import java.util.ArrayDeque;
import java.util.ArrayList;
import java.util.Deque;
import java.util.List;
import java.util.Set;
import java.util.TreeSet;

/**
 * The document told a second time, with the Java library and with no eye on speed: the check walks over pairs of an
 * instruction and a height, and is done anew whenever it is asked for.
 */
final class Model {
    private static final String[] NAMES = {"PUSH", "POP", "DUP", "ADD", "SUB", "MUL", "SWAP", "OVER", "JUMP", "JZERO",
        "JPOS", "GET", "SET", "STOP", "COST"};

    private final List<int[]> program = new ArrayList<>();
    private final int[] cells = new int[4];
    private List<Integer> stack = new ArrayList<>();
    private String state = "NONE";
    private int fuel = 0;
    private int place = 0;

    int emit(int op, int c) {
        if (op < 0 || op > 14) {
            return -1;
        }
        if (program.size() == 24) {
            return -2;
        }
        program.add(new int[] {op, c});
        state = "NONE";
        return program.size() - 1;
    }

    void clear() {
        program.clear();
        state = "NONE";
    }

    int cell(int i, int value) {
        int old = cells[i & 3];
        cells[i & 3] = value;
        return old;
    }

    int run(int given) {
        if (!sound()) {
            return -3;
        }
        stack = new ArrayList<>();
        place = 0;
        fuel = Math.min(2000, Math.max(0, given));
        goOn();
        return state();
    }

    int refuel(int more) {
        if (state.equals("NO_FUEL")) {
            fuel = Math.min(2000, fuel + Math.min(2000, Math.max(0, more)));
            goOn();
        }
        return state();
    }

    boolean sound() {
        return walk() != null;
    }

    int height(int p) {
        Set<Integer> pairs = walk();
        if (pairs == null) {
            return -4;
        }
        for (int pair : pairs) {
            if (pair / 10 == p) {
                return pair % 10;
            }
        }
        return -4;
    }

    int state() {
        return List.of("NONE", "STOPPED", "NO_FUEL").indexOf(state);
    }

    int fuel() {
        return state.equals("NONE") ? 0 : fuel;
    }

    int place() {
        return state.equals("NONE") ? -4 : place;
    }

    int depth() {
        return state.equals("NONE") ? 0 : stack.size();
    }

    int top(int i) {
        return i < 0 || i >= depth() ? 0 : stack.get(stack.size() - 1 - i);
    }

    int get(int i) {
        return cells[i & 3];
    }

    String text() {
        StringBuilder text = new StringBuilder();
        for (int[] instruction : program) {
            text.append(NAMES[instruction[0]]).append(' ').append(instruction[1]).append("; ");
        }
        return text.toString();
    }

    /** All pairs 10 * instruction + height that can come up, or null if the program is not sound. */
    private Set<Integer> walk() {
        Set<Integer> seen = new TreeSet<>();
        Deque<Integer> open = new ArrayDeque<>();
        open.push(0);
        while (!open.isEmpty()) {
            int pair = open.pop();
            int p = pair / 10;
            int height = pair % 10;
            if (p >= program.size()) {
                return null;
            }
            if (!seen.add(pair)) {
                continue;
            }
            String name = NAMES[program.get(p)[0]];
            int behind = height + puts(name) - takes(name);
            if (height < takes(name) || behind > 8) {
                return null;
            }
            for (long next : nexts(p, name)) {
                if (next < 0 || next >= program.size()) {
                    return null;
                }
                open.push((int) next * 10 + behind);
            }
        }
        long places = seen.stream().map(pair -> pair / 10).distinct().count();
        return places == seen.size() ? seen : null;
    }

    private List<Long> nexts(int p, String name) {
        long c = program.get(p)[1];
        switch (name) {
            case "STOP":
                return List.of();
            case "JUMP":
                return List.of(c);
            case "JZERO":
            case "JPOS":
                return List.of(c, p + 1L);
            default:
                return List.of(p + 1L);
        }
    }

    private static int takes(String name) {
        if (Set.of("POP", "DUP", "JZERO", "JPOS", "SET").contains(name)) {
            return 1;
        }
        return Set.of("ADD", "SUB", "MUL", "SWAP", "OVER").contains(name) ? 2 : 0;
    }

    /** What it looks at counts as taken and put back. */
    private static int puts(String name) {
        switch (name) {
            case "PUSH":
            case "GET":
            case "ADD":
            case "SUB":
            case "MUL":
                return 1;
            case "DUP":
            case "SWAP":
                return 2;
            case "OVER":
                return 3;
            default:
                return 0;
        }
    }

    private void goOn() {
        while (true) {
            String name = NAMES[program.get(place)[0]];
            int c = program.get(place)[1];
            int cost = name.equals("COST") ? Math.floorMod(c, 16) + 1 : name.equals("MUL") ? 3 : 1;
            if (fuel < cost) {
                state = "NO_FUEL";
                return;
            }
            fuel -= cost;
            if (name.equals("STOP")) {
                state = "STOPPED";
                return;
            }
            place = carryOut(name, c);
        }
    }

    /** Takes off all that the instruction takes or looks at, puts its results on, and answers what comes next. */
    private int carryOut(String name, int c) {
        int takes = takes(name);
        int y = takes > 0 ? stack.remove(stack.size() - 1) : 0;
        int x = takes > 1 ? stack.remove(stack.size() - 1) : 0;
        switch (name) {
            case "PUSH": stack.add(c); break;
            case "DUP": stack.addAll(List.of(y, y)); break;
            case "ADD": stack.add((int) ((long) x + y)); break;
            case "SUB": stack.add((int) ((long) x - y)); break;
            case "MUL": stack.add((int) ((long) x * y)); break;
            case "SWAP": stack.addAll(List.of(y, x)); break;
            case "OVER": stack.addAll(List.of(x, y, x)); break;
            case "GET": stack.add(cells[Math.floorMod(c, 4)]); break;
            case "SET": cells[Math.floorMod(c, 4)] = y; break;
            default: break;
        }
        boolean goes = name.equals("JUMP") || name.equals("JZERO") && y == 0 || name.equals("JPOS") && y > 0;
        return goes ? c : place + 1;
    }
}
