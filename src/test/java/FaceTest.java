import java.lang.reflect.Constructor;
import java.lang.reflect.Field;
import java.lang.reflect.Method;
import java.lang.reflect.Modifier;
import java.util.Arrays;
import java.util.Map;
import java.util.Set;
import java.util.TreeMap;
import java.util.TreeSet;

/** The class has the document's public face and nothing beside it. */
final class FaceTest implements Answers {
    private static final Map<String, Integer> METHODS = new TreeMap<>(Map.ofEntries(
            Map.entry("begin", 0), Map.entry("read", 2), Map.entry("write", 3), Map.entry("add", 3),
            Map.entry("commit", 1), Map.entry("abort", 1), Map.entry("status", 1), Map.entry("value", 1),
            Map.entry("writer", 1), Map.entry("settledValue", 1), Map.entry("before", 2),
            Map.entry("waitsFor", 2), Map.entry("access", 2), Map.entry("written", 2),
            Map.entry("settledAt", 1), Map.entry("opsLeft", 0)));

    public static void main(String[] args) throws IllegalAccessException {
        constants();
        methods();
        constructor();
        Check.finish();
    }

    private static void constants() throws IllegalAccessException {
        Map<String, Integer> want = new TreeMap<>();
        for (Field f : Answers.class.getDeclaredFields()) {
            want.put(f.getName(), f.getInt(null));
        }
        // These two are the test's own.
        want.remove("LOW");
        want.remove("HIGH");
        Map<String, Integer> got = new TreeMap<>();
        for (Field f : GraphScheduler.class.getDeclaredFields()) {
            if (!Modifier.isPrivate(f.getModifiers())) {
                int constant = Modifier.PUBLIC | Modifier.STATIC | Modifier.FINAL;
                same("modifiers of " + f.getName(), f.getModifiers(), constant);
                same("type of " + f.getName(), f.getType(), int.class);
                got.put(f.getName(), f.getInt(null));
            }
        }
        same("constants", got, want);
    }

    private static void methods() {
        Map<String, Integer> got = new TreeMap<>();
        Set<String> hidden = new TreeSet<>();
        for (Method m : GraphScheduler.class.getDeclaredMethods()) {
            if (Modifier.isPrivate(m.getModifiers())) {
                hidden.add(m.getName());
                continue;
            }
            same("modifiers of " + m.getName(), m.getModifiers() & ~Modifier.FINAL, Modifier.PUBLIC);
            same("type of " + m.getName(), m.getReturnType(), int.class);
            boolean ints = Arrays.stream(m.getParameterTypes()).allMatch(p -> p == int.class);
            same("int parameters alone in " + m.getName(), ints, true);
            got.put(m.getName(), m.getParameterCount());
        }
        same("methods", got, METHODS);
        hidden.retainAll(METHODS.keySet());
        same("private methods with public names", hidden, Set.of());
    }

    private static void constructor() {
        Constructor<?>[] all = GraphScheduler.class.getDeclaredConstructors();
        same("constructors", all.length, 1);
        same("modifiers of the constructor", all[0].getModifiers(), Modifier.PUBLIC);
        same("its parameters", Arrays.asList(all[0].getParameterTypes()), Arrays.asList(int.class, int.class));
        same("modifiers of the class", GraphScheduler.class.getModifiers(), Modifier.PUBLIC | Modifier.FINAL);
        same("nested classes", GraphScheduler.class.getDeclaredClasses().length, 0);
        same("package", GraphScheduler.class.getPackageName(), "");
    }

    private static void same(String what, Object got, Object want) {
        if (!got.equals(want)) {
            System.out.println(what + ": " + got + ", due is " + want);
        }
        Check.due(what, got.equals(want) ? 1 : 0, 1);
    }
}
