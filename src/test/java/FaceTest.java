import java.lang.reflect.Constructor;
import java.lang.reflect.Field;
import java.lang.reflect.Method;
import java.lang.reflect.Modifier;
import java.util.ArrayList;
import java.util.Arrays;
import java.util.List;
import java.util.TreeSet;

/** The public face: just what the document prints, and rules 1, 5 and 11 of LANGUAGE.md. */
final class FaceTest {
    private static final String[] FACE = {"party 1", "as 2", "contract 3", "extra 2", "began 3",
        "ended 3", "notice 1", "pay 2", "waive 3", "of 2", "day 1", "law 2", "file 2", "sue 1",
        "bond 2", "judge 2", "bar 2", "worth 2", "rank 2", "loan 2", "sale 4", "twice 1", "sign 3",
        "in 3", "out 2", "trace 2", "held 3", "tell 1", "check 1", "count 1", "found 1"};

    public static void main(String[] args) {
        Class<?> face = LienTower.class;
        Due.holds("public", Modifier.isPublic(face.getModifiers()));
        Due.holds("final", Modifier.isFinal(face.getModifiers()));
        constructors(face);
        methods(face);
        for (Class<?> c : allClasses()) {
            fields(c);
            namesAndParameters(c);
        }
        Due.holds("some twelve classes at most", allClasses().size() <= 12);
        Due.end();
    }

    private static List<Class<?>> allClasses() {
        List<Class<?>> all = new ArrayList<>(Arrays.asList(LienTower.class.getDeclaredClasses()));
        for (Class<?> c : all) {
            Due.holds(c + " is static", Modifier.isStatic(c.getModifiers()));
            Due.holds(c + " is not public", !Modifier.isPublic(c.getModifiers()));
        }
        all.add(LienTower.class);
        return all;
    }

    private static void constructors(Class<?> face) {
        Constructor<?>[] all = face.getDeclaredConstructors();
        Due.same("constructors", all.length, 1);
        Due.holds("public constructor", Modifier.isPublic(all[0].getModifiers()));
        Due.same("its parameters", all[0].getParameterCount(), 0);
    }

    private static void methods(Class<?> face) {
        TreeSet<String> seen = new TreeSet<>();
        for (Method m : face.getDeclaredMethods()) {
            if (Modifier.isPrivate(m.getModifiers())) {
                continue;
            }
            seen.add(m.getName() + " " + m.getParameterCount());
            Due.holds(m + " is public", Modifier.isPublic(m.getModifiers()));
            Due.holds(m + " is not static", !Modifier.isStatic(m.getModifiers()));
            Due.holds(m + " answers int", m.getReturnType() == int.class);
            for (Class<?> p : m.getParameterTypes()) {
                Due.holds(m + " takes ints", p == int.class);
            }
        }
        Due.holds("the face is " + seen, seen.equals(new TreeSet<>(List.of(FACE))));
    }

    private static void fields(Class<?> c) {
        int ofObjects = 0;
        for (Field f : c.getDeclaredFields()) {
            if (Modifier.isStatic(f.getModifiers())) {
                Due.holds(f + " is final", Modifier.isFinal(f.getModifiers()));
            } else {
                ofObjects++;
            }
            if (c == LienTower.class) {
                Due.holds(f + " is private", Modifier.isPrivate(f.getModifiers()));
            }
        }
        Due.holds(c + " has some twenty fields at most", ofObjects <= 20);
    }

    private static void namesAndParameters(Class<?> c) {
        TreeSet<String> names = new TreeSet<>();
        for (String f : FACE) {
            names.add(f.substring(0, f.indexOf(' ')));
        }
        for (Method m : c.getDeclaredMethods()) {
            boolean isOfFace = c == LienTower.class && Modifier.isPublic(m.getModifiers());
            Due.holds(m + " bears no name of the face", isOfFace || !names.contains(m.getName()));
            Due.holds(m + " takes seven at most", m.getParameterCount() <= 7);
        }
    }
}
