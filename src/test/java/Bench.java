import java.util.ArrayList;
import java.util.List;
import java.util.function.Consumer;

/**
 * Holds one sentence of the document against the class twice: on new objects, and on objects that have been worn before
 * just so much that the test's last call is their 512th, the last one for which anything is promised.
 */
final class Bench {
    private static final int MOST_CALLS = 512;

    /** The ends of int, and both sides of every bound that the document names. */
    static final int[] ANY = {Integer.MIN_VALUE, Integer.MIN_VALUE + 1, -2001, -25, -5, -4, -3, -2, -1, 0, 1, 2, 3, 4,
        5, 7, 8, 9, 22, 23, 24, 25, 1999, 2000, 2001, Integer.MAX_VALUE - 1, Integer.MAX_VALUE};

    private final String words;
    private final List<Integer> wear;
    private final List<Gate> made = new ArrayList<>();

    private Bench(String words, List<Integer> wear) {
        this.words = words;
        this.wear = wear;
    }

    static void sentence(String words, Consumer<Bench> test) {
        Bench early = new Bench(words + " [early]", List.of());
        test.accept(early);
        Bench late = new Bench(words + " [late]", early.callsLeft());
        test.accept(late);
        for (int left : late.callsLeft()) {
            Due.is(words + ": calls left behind the late test", left, 0);
        }
    }

    /** An object that answers as a new one does, with these instructions: op, c, op, c and so on. */
    Gate gate(int... opsAndNumbers) {
        int number = made.size();
        Gate gate = new Gate(words + ", object " + number);
        made.add(gate);
        if (number < wear.size()) {
            gate.wear(wear.get(number));
        }
        gate.program(opsAndNumbers);
        return gate;
    }

    Gate inScene(Consumer<Gate> scene) {
        Gate gate = gate();
        scene.accept(gate);
        return gate;
    }

    /** Behind the calls the object answers as a twin that was spared them, at once and as both go on. */
    void changesNothing(Consumer<Gate> scene, Consumer<Gate> calls) {
        Gate called = inScene(scene);
        Gate spared = inScene(scene);
        calls.accept(called);
        called.goesOnAs(spared);
    }

    private List<Integer> callsLeft() {
        List<Integer> left = new ArrayList<>();
        for (Gate gate : made) {
            left.add(MOST_CALLS - gate.calls());
        }
        Due.is(words + ": some object being made", left.size() > 0, true);
        return left;
    }
}
