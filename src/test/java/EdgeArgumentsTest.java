import java.util.ArrayList;
import java.util.Arrays;
import java.util.List;
import java.util.TreeSet;

/**
 * Every call with all numbers at edges together, on a new, a small and a full object: none throws,
 * and each answers as Oracle does. So the order of findings is looked at for any that are due at
 * once.
 */
final class EdgeArgumentsTest {
    private static final int MOST_CALLS = 512;
    private static final int[] ENDS = {Integer.MIN_VALUE, -2, -1, 0, 1, Integer.MAX_VALUE};
    /** The last number of something's range; the one behind it is asked with too. */
    private static final int[] LASTS = {3, 5, 9, 11, 13, 15, 39};
    private static final int[] WIDE_LASTS = {365, 1000, 5000, 100000, 1000000, 10000000};

    private static final String SMALL = "party 2; party 3; party 1; party 0; contract 0 1 9;"
            + " contract 1 2 7; day 3; began 0 1 2; began 1 2 3; notice 1; file 1 5; file 0 9;"
            + " loan 3 4; in 1 0 6; in 1 -1 1; out 1 2; tell 5; ended 0 3 3";
    private static final String FULL = fullTower();

    private final String begin;
    private LienTower tower;
    private Oracle oracle;
    private int asked = MOST_CALLS;

    private EdgeArgumentsTest(String begin) {
        this.begin = begin;
    }

    public static void main(String[] args) {
        for (String begin : new String[] {"", SMALL, FULL}) {
            for (String name : Calls.names()) {
                EdgeArgumentsTest test = new EdgeArgumentsTest(begin);
                test.askAll(name, new int[Calls.parameters(name)], 0);
            }
        }
        Due.end();
    }

    /** More numbers for calls that take few, so that none takes too long. */
    private static Iterable<Integer> numbersFor(int parameters) {
        TreeSet<Integer> numbers = new TreeSet<>();
        for (int v : ENDS) {
            numbers.add(v);
        }
        for (int v : parameters <= 3 ? WIDE_LASTS : new int[] {10000000}) {
            numbers.add(v);
            numbers.add(v + 1);
        }
        for (int v : parameters <= 2 ? LASTS : new int[] {5}) {
            numbers.add(v);
            numbers.add(v + 1);
        }
        return numbers;
    }

    private void askAll(String name, int[] a, int at) {
        if (at == a.length) {
            ask(name, a);
            return;
        }
        for (int v : numbersFor(a.length)) {
            a[at] = v;
            askAll(name, a, at + 1);
        }
    }

    private void ask(String name, int[] a) {
        if (asked >= MOST_CALLS) {
            begin();
        }
        both(name, a);
    }

    private void begin() {
        tower = new LienTower();
        oracle = new Oracle();
        asked = 0;
        for (String call : begin.split(";")) {
            if (!call.isBlank()) {
                both(Calls.nameIn(call), Calls.numbersIn(call));
            }
        }
    }

    private void both(String name, int[] a) {
        asked++;
        int want = Calls.answer(oracle, name, a);
        Due.same(name + Arrays.toString(a), Calls.answer(tower, name, a), want);
    }

    private static String fullTower() {
        List<String> calls = new ArrayList<>();
        calls.add("party 1");
        for (int i = 2; i <= 11; i++) {
            calls.add("party 2");
            calls.add("contract " + (i <= 3 ? 0 : i - 1) + " " + i + " " + 10 * i);
        }
        calls.add("day 30");
        for (int i = 0; i < 10; i++) {
            calls.add("began " + i + " " + i + " " + 2 * i);
            calls.add("notice " + i);
        }
        for (int i = 0; i < 16; i++) {
            calls.add("file " + i % 10 + " 13");
            calls.add("tell " + i);
        }
        for (int i = 0; i < 20; i++) {
            calls.add("waive " + i / 2 + " " + i + " " + i % 2);
        }
        for (int i = 0; i < 6; i++) {
            calls.add("loan 1 " + (i + 5));
        }
        for (int i = 0; i < 40; i++) {
            calls.add("in " + (2 + i % 10) + " " + (i % 3 == 0 ? -1 : i % 10) + " 5");
        }
        for (int i = 0; i < 40; i++) {
            calls.add("out " + (2 + i % 10) + " 3");
        }
        return String.join(";", calls);
    }
}
