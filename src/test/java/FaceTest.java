import java.lang.reflect.Constructor;
import java.lang.reflect.Field;
import java.lang.reflect.Method;
import java.lang.reflect.Modifier;
import java.util.Arrays;
import java.util.Map;
import java.util.Set;
import java.util.TreeSet;

/** The public face of the document, and the rules of LANGUAGE.md that the compiled class shows. */
public final class FaceTest {
    private static final Class<?> FACE = BundleMachine.class;

    private static final Map<String, Integer> CONSTANTS = Map.ofEntries(
            Map.entry("ADD", 0), Map.entry("SUB", 1), Map.entry("MUL", 2), Map.entry("XOR", 3),
            Map.entry("LESS", 4), Map.entry("PICK", 5), Map.entry("ADDI", 6), Map.entry("LOAD", 7),
            Map.entry("STORE", 8), Map.entry("BAD", -1), Map.entry("FULL", -2));

    private static final Set<String> METHODS = Set.of(
            "int emit[int, int, int, int]", "int retract[]", "int drop[]", "int run[]",
            "int register[int]", "boolean setRegister[int, int]", "int memory[int]",
            "boolean setMemory[int, int]", "int weight[int]", "int heaviest[]", "int links[]");

    public static void main(String[] args) throws IllegalAccessException {
        classItself();
        constructors();
        constants();
        methods();
        heldState();
        Due.end();
    }

    private static void classItself() {
        Due.same("modifiers of the class", FACE.getModifiers(), Modifier.PUBLIC | Modifier.FINAL);
        Due.yes("no package", FACE.getPackageName().isEmpty());
        Due.yes("extends Object alone", FACE.getSuperclass() == Object.class);
        Due.same("number of interfaces", FACE.getInterfaces().length, 0);
        Due.same("number of nested classes", FACE.getDeclaredClasses().length, 0);
    }

    private static void constructors() {
        Constructor<?>[] all = FACE.getDeclaredConstructors();
        Due.same("number of constructors", all.length, 1);
        Due.same("modifiers of the constructor", all[0].getModifiers(), Modifier.PUBLIC);
        Due.same("parameters of the constructor", all[0].getParameterCount(), 0);
    }

    private static void constants() throws IllegalAccessException {
        Set<String> seen = new TreeSet<>();
        for (Field field : FACE.getDeclaredFields()) {
            if (Modifier.isPrivate(field.getModifiers())) {
                continue;
            }
            String name = field.getName();
            seen.add(name);
            Due.same("modifiers of " + name, field.getModifiers(), Modifier.PUBLIC | Modifier.STATIC | Modifier.FINAL);
            Due.yes(name + " is an int", field.getType() == int.class);
            Due.yes(name + " stands in the document", CONSTANTS.containsKey(name));
            if (CONSTANTS.containsKey(name)) {
                Due.same(name, field.getInt(null), CONSTANTS.get(name));
            }
        }
        Due.yes("all constants are there", seen.equals(CONSTANTS.keySet()));
    }

    private static void methods() {
        Set<String> seen = new TreeSet<>();
        Set<String> publicNames = new TreeSet<>();
        for (Method method : FACE.getDeclaredMethods()) {
            if (!Modifier.isPrivate(method.getModifiers())) {
                seen.add(signature(method));
                publicNames.add(method.getName());
                Due.same("modifiers of " + method.getName(), method.getModifiers(), Modifier.PUBLIC);
            }
        }
        Due.yes("the methods are those of the document: " + seen, seen.equals(METHODS));
        for (Method method : FACE.getDeclaredMethods()) {
            if (Modifier.isPrivate(method.getModifiers())) {
                Due.no("private " + method.getName() + " bears a public name", publicNames.contains(method.getName()));
                Due.yes(method.getName() + " takes at most seven parameters", method.getParameterCount() <= 7);
            }
        }
    }

    private static String signature(Method method) {
        String[] types = Arrays.stream(method.getParameterTypes()).map(Class::getName).toArray(String[]::new);
        return method.getReturnType().getName() + " " + method.getName() + Arrays.toString(types);
    }

    private static void heldState() {
        for (Field field : FACE.getDeclaredFields()) {
            Class<?> type = field.getType();
            if (Modifier.isStatic(field.getModifiers())) {
                Due.yes(field.getName() + " is final", Modifier.isFinal(field.getModifiers()));
                Due.yes(field.getName() + " is an int or a long", type == int.class || type == long.class);
            } else {
                Class<?> element = type.isArray() ? type.getComponentType() : type;
                Due.yes(field.getName() + " holds plain values", element.isPrimitive());
                Due.no(field.getName() + " holds fractions", element == float.class || element == double.class);
            }
        }
    }
}
