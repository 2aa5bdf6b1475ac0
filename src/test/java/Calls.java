import java.lang.reflect.Method;
import java.util.Map;
import java.util.Set;
import java.util.TreeMap;
import java.util.TreeSet;

/**
 * Calls by their names, and calls that are told as text, as "contract 0 1 1000"; the words least
 * and most are the ends of int.
 */
final class Calls {
    private static final Map<String, Method> OF_TOWER = callsOf(LienTower.class);
    private static final Map<String, Method> OF_ORACLE = callsOf(Oracle.class);

    private Calls() {
    }

    static Set<String> names() {
        return OF_TOWER.keySet();
    }

    static int parameters(String name) {
        return OF_TOWER.get(name).getParameterCount();
    }

    static int answer(LienTower x, String name, int... a) {
        return answer(OF_TOWER.get(name), x, a);
    }

    static int answer(Oracle x, String name, int... a) {
        return answer(OF_ORACLE.get(name), x, a);
    }

    static int answer(LienTower x, String call) {
        return answer(x, nameIn(call), numbersIn(call));
    }

    static String nameIn(String call) {
        return call.trim().split(" +")[0];
    }

    static int[] numbersIn(String call) {
        String[] words = call.trim().split(" +");
        int[] numbers = new int[words.length - 1];
        for (int i = 0; i < numbers.length; i++) {
            numbers[i] = number(words[i + 1]);
        }
        return numbers;
    }

    private static int number(String word) {
        switch (word) {
            case "least": return Integer.MIN_VALUE;
            case "most": return Integer.MAX_VALUE;
            default: return Integer.parseInt(word);
        }
    }

    private static int answer(Method call, Object x, int[] a) {
        Object[] taken = new Object[a.length];
        for (int i = 0; i < a.length; i++) {
            taken[i] = a[i];
        }
        try {
            return (int) call.invoke(x, taken);
        } catch (ReflectiveOperationException e) {
            throw new IllegalStateException(call.getName() + " threw", e);
        }
    }

    /** In the order of their names, so that a run is the same each time. */
    private static Map<String, Method> callsOf(Class<?> owner) {
        Set<String> face = new TreeSet<>();
        for (Method m : LienTower.class.getMethods()) {
            if (m.getDeclaringClass() == LienTower.class) {
                face.add(m.getName());
            }
        }
        Map<String, Method> calls = new TreeMap<>();
        for (Method m : owner.getDeclaredMethods()) {
            if (face.contains(m.getName())) {
                calls.put(m.getName(), m);
            }
        }
        return calls;
    }
}
