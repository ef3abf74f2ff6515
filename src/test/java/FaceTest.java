import java.lang.reflect.Constructor;
import java.lang.reflect.Field;
import java.lang.reflect.Method;
import java.lang.reflect.Modifier;
import java.util.Set;
import java.util.TreeSet;

/** The public face is the document's, member by member, and all else is private (LANGUAGE.md, rules 1, 2 and 5). */
public final class FaceTest {
    public static void main(String[] args) throws Exception {
        constants();
        members();
        fieldTypes();
        privateNames();
        Due.end();
    }

    private static void constants() throws Exception {
        String[] names = {"BAD_OP", "FULL", "NOT_SOUND", "BAD_PLACE", "NONE", "STOPPED", "NO_FUEL"};
        int[] values = {-1, -2, -3, -4, 0, 1, 2};
        for (int k = 0; k < names.length; k++) {
            Due.is(names[k], FuelGate.class.getField(names[k]).getInt(null), values[k]);
        }
    }

    private static void members() {
        Set<String> want = new TreeSet<>(Set.of(
            "public FuelGate()",
            "public static final int FuelGate.BAD_OP",
            "public static final int FuelGate.FULL",
            "public static final int FuelGate.NOT_SOUND",
            "public static final int FuelGate.BAD_PLACE",
            "public static final int FuelGate.NONE",
            "public static final int FuelGate.STOPPED",
            "public static final int FuelGate.NO_FUEL",
            "public int FuelGate.emit(int,int)",
            "public void FuelGate.clear()",
            "public int FuelGate.cell(int,int)",
            "public int FuelGate.run(int)",
            "public int FuelGate.refuel(int)",
            "public boolean FuelGate.sound()",
            "public int FuelGate.height(int)",
            "public int FuelGate.state()",
            "public int FuelGate.fuel()",
            "public int FuelGate.place()",
            "public int FuelGate.depth()",
            "public int FuelGate.top(int)",
            "public int FuelGate.get(int)"));
        Set<String> got = new TreeSet<>();
        for (Constructor<?> constructor : FuelGate.class.getDeclaredConstructors()) {
            addUnlessPrivate(got, constructor.getModifiers(), constructor.toString());
        }
        for (Method method : FuelGate.class.getDeclaredMethods()) {
            addUnlessPrivate(got, method.getModifiers(), method.toString());
        }
        for (Field field : FuelGate.class.getDeclaredFields()) {
            addUnlessPrivate(got, field.getModifiers(), field.toString());
        }
        Due.is("the members that are not private " + got + " being those of the document", got.equals(want), true);
        Due.is("the class being public", Modifier.isPublic(FuelGate.class.getModifiers()), true);
        Due.is("the class being final", Modifier.isFinal(FuelGate.class.getModifiers()), true);
        Due.is("the nested classes", FuelGate.class.getDeclaredClasses().length, 0);
        Due.is("the class inheriting from Object alone", FuelGate.class.getSuperclass() == Object.class, true);
        Due.is("the interfaces", FuelGate.class.getInterfaces().length, 0);
        Due.is("the package's name", FuelGate.class.getPackageName(), "");
    }

    private static void addUnlessPrivate(Set<String> members, int modifiers, String text) {
        if (!Modifier.isPrivate(modifiers)) {
            members.add(text);
        }
    }

    private static void fieldTypes() {
        Set<Class<?>> numbers = Set.of(int.class, long.class, short.class, byte.class, char.class, boolean.class);
        for (Field field : FuelGate.class.getDeclaredFields()) {
            Class<?> type = field.getType();
            if (Modifier.isStatic(field.getModifiers())) {
                Due.is(field + " being a constant", Modifier.isFinal(field.getModifiers()), true);
                Due.is(field + " being int or long", type == int.class || type == long.class, true);
            } else {
                Class<?> kept = type.isArray() ? type.getComponentType() : type;
                Due.is(field + " being of an allowed type", numbers.contains(kept), true);
            }
        }
    }

    private static void privateNames() {
        for (Method hidden : FuelGate.class.getDeclaredMethods()) {
            for (Method shown : FuelGate.class.getDeclaredMethods()) {
                boolean clash = Modifier.isPrivate(hidden.getModifiers())
                    && Modifier.isPublic(shown.getModifiers())
                    && hidden.getName().equals(shown.getName());
                Due.is(hidden + " bearing a public name", clash, false);
            }
        }
    }
}
