import java.lang.reflect.Field;
import java.lang.reflect.Method;
import java.lang.reflect.Modifier;
import java.nio.file.Files;
import java.nio.file.Path;
import java.util.ArrayList;
import java.util.List;
import java.util.Set;
import java.util.TreeSet;
import java.util.regex.Matcher;
import java.util.regex.Pattern;

/**
 * The example in README.md, read from there: its calls are done in its order, and each answer is held against the one
 * that its line names. Run from the project's root.
 */
public final class ReadmeTest {
    private static final String FIRST_LINE = "FuelGate gate = new FuelGate();";
    private static final String NUMBER = "-?(?:0|[1-9][0-9]*)";
    private static final String ANSWER = NUMBER + "|true|false|nothing|[A-Z_]+";
    private static final Pattern CALL = Pattern.compile(
        "gate\\.([a-z]+)\\(((?:" + NUMBER + "(?:, " + NUMBER + ")*)?)\\); +// (" + ANSWER + ")(?:: .+)?");

    public static void main(String[] args) throws Exception {
        List<String> readme = Files.readAllLines(Path.of("README.md"));
        example(blockOfJava(readme));
        constants(readme);
        Due.end();
    }

    private static List<String> blockOfJava(List<String> readme) {
        List<String> block = new ArrayList<>();
        int blocks = 0;
        boolean inside = false;
        for (String line : readme) {
            if (line.equals("```java")) {
                blocks++;
                inside = true;
            } else if (line.equals("```")) {
                inside = false;
            } else if (inside) {
                block.add(line);
            }
        }
        Due.is("README.md: the blocks of Java", blocks, 1);
        return block;
    }

    private static void example(List<String> lines) throws Exception {
        Due.is("the example's first line", lines.isEmpty() ? "none" : lines.get(0), FIRST_LINE);
        FuelGate gate = new FuelGate();
        Set<String> called = new TreeSet<>();
        for (int k = 1; k < lines.size(); k++) {
            Matcher call = CALL.matcher(lines.get(k));
            boolean read = call.matches();
            Due.is("\"" + lines.get(k) + "\" being a call with the answer that is due", read, true);
            if (read) {
                called.add(call.group(1));
                Due.is("README.md: " + lines.get(k), answer(gate, call), due(call.group(3)));
            }
        }
        Due.is("the calls that the example shows", called.toString(), methods().toString());
        Due.is("the example staying within an object's 512 calls", lines.size() - 1 <= 512, true);
    }

    private static String answer(FuelGate gate, Matcher call) throws Exception {
        String[] texts = call.group(2).isEmpty() ? new String[0] : call.group(2).split(", ");
        Object[] arguments = new Object[texts.length];
        Class<?>[] types = new Class<?>[texts.length];
        for (int k = 0; k < texts.length; k++) {
            arguments[k] = Integer.parseInt(texts[k]);
            types[k] = int.class;
        }
        Method method = FuelGate.class.getMethod(call.group(1), types);
        Object got = method.invoke(gate, arguments);
        return method.getReturnType() == void.class ? "nothing" : String.valueOf(got);
    }

    /** A constant's name stands for its value; all else stands for itself. */
    private static String due(String named) throws Exception {
        if (Character.isUpperCase(named.charAt(0))) {
            return String.valueOf(FuelGate.class.getField(named).getInt(null));
        }
        return named;
    }

    private static Set<String> methods() {
        Set<String> names = new TreeSet<>();
        for (Method method : FuelGate.class.getDeclaredMethods()) {
            if (Modifier.isPublic(method.getModifiers())) {
                names.add(method.getName());
            }
        }
        return names;
    }

    /** README.md has a row with the value of each constant. */
    private static void constants(List<String> readme) throws Exception {
        for (Field field : FuelGate.class.getFields()) {
            String row = "| `" + field.getName() + "` | " + field.getInt(null) + " |";
            boolean found = readme.stream().anyMatch(line -> line.startsWith(row));
            Due.is("README.md having a row \"" + row + "\"", found, true);
        }
    }
}
