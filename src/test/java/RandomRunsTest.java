import java.util.ArrayDeque;
import java.util.Arrays;
import java.util.List;
import java.util.Random;

/** Promises 1 to 32: runs of 512 calls by fixed seeds, each answer compared with Oracle's. */
final class RandomRunsTest {
    private static final int RUNS = 1500;
    private static final int CALLS = 512;
    private static final String[] NAMES = {"party", "as", "contract", "extra", "began", "ended",
        "notice", "pay", "waive", "of", "day", "law", "file", "sue", "bond", "judge", "bar",
        "worth", "rank", "loan", "sale", "twice", "sign", "in", "out", "trace", "held", "tell",
        "check", "count", "found"};
    /** How often each call comes, by NAMES. */
    private static final int[] WEIGHTS = {8, 4, 9, 3, 9, 4, 6, 6, 4, 12, 6, 6, 9, 3, 4, 8, 10,
        14, 6, 4, 24, 8, 10, 9, 8, 10, 8, 6, 3, 6, 2};
    private static final int[] EDGES = {Integer.MIN_VALUE, Integer.MAX_VALUE, -2, -1, 0, 1, 2, 12,
        14, 16, 365, 366, 1000, 1001, 5000, 5001, 100000, 100001, 1000000, 1000001, 10000000,
        10000001, -1000000000};

    private static final int CHECK = List.of(NAMES).indexOf("check");
    private static final int TELL = List.of(NAMES).indexOf("tell");
    private static final int MOST_WAITING = 16;

    private final int seed;
    private final Random random;
    private final LienTower tower = new LienTower();
    private final Oracle oracle = new Oracle();
    private final ArrayDeque<String> tail = new ArrayDeque<>();
    private final int amountScale;
    private final int dayScale;
    private int asked = 0;

    private RandomRunsTest(int seed) {
        this.seed = seed;
        random = new Random(seed);
        amountScale = new int[] {6, 40, 900, 60000}[random.nextInt(4)];
        dayScale = new int[] {1, 6, 40}[random.nextInt(3)];
    }

    public static void main(String[] args) {
        for (int seed = 1; seed <= RUNS && Due.wrongSoFar() == 0; seed++) {
            new RandomRunsTest(seed).run();
        }
        Due.end();
    }

    private void run() {
        while (asked < CALLS && Due.wrongSoFar() == 0) {
            int call = asked < 40 && random.nextInt(3) > 0 ? random.nextInt(5) : weighted();
            int[] a = arguments(call);
            if (random.nextInt(60) == 0) {
                a[random.nextInt(4)] = EDGES[random.nextInt(EDGES.length)];
            }
            compare(call, a);
        }
    }

    private void compare(int call, int... a) {
        asked++;
        int[] taken = Arrays.copyOf(a, Calls.parameters(NAMES[call]));
        int want = Calls.answer(oracle, NAMES[call], taken);
        int got = Calls.answer(tower, NAMES[call], taken);
        tail.add(NAMES[call] + Arrays.toString(taken) + " " + got);
        if (got != want) {
            tail.forEach(System.out::println);
        }
        Due.same("seed " + seed + ", call " + asked + ", " + NAMES[call], got, want);
    }

    private int weighted() {
        int all = 0;
        for (int w : WEIGHTS) {
            all += w;
        }
        int at = random.nextInt(all);
        int call = 0;
        while (at >= WEIGHTS[call]) {
            at -= WEIGHTS[call];
            call++;
        }
        return call;
    }

    /** Mostly one of 0 .. many - 1; now and then the first that is not there. */
    private int one(int many) {
        return random.nextInt(25) == 0 || many == 0 ? many : random.nextInt(many);
    }

    private int amount() {
        return 1 + random.nextInt(amountScale);
    }

    private int kind() {
        int[] kinds = {0, 1, 1, 2, 2, 2, 2, 2, 2, 3};
        return kinds[random.nextInt(kinds.length)];
    }

    private int[] arguments(int call) {
        int party = one(oracle.parties());
        int contract = one(oracle.contracts());
        int claim = one(oracle.claims());
        int today = oracle.today();
        int later = Math.min(5000, today + random.nextInt(4) * dayScale);
        int first = Math.max(0, today - random.nextInt(5) * dayScale - random.nextInt(2));
        int last = first + random.nextInt(3) * dayScale;
        int aim = random.nextInt(4) == 0 ? 0 : amount() * (1 + random.nextInt(8));
        switch (NAMES[call]) {
            case "party": return new int[] {kind(), 0, 0, 0};
            case "as": return new int[] {party, random.nextInt(4), 0, 0};
            case "contract":
                return new int[] {random.nextInt(4) == 0 ? 0 : party, one(oracle.parties()), amount(), 0};
            case "extra": case "pay": case "file": return new int[] {contract, amount(), 0, 0};
            case "began": case "ended": return new int[] {contract, first, last, 0};
            case "notice": case "twice": return new int[] {contract, 0, 0, 0};
            case "waive": return new int[] {contract, amount() / 2, random.nextInt(2), 0};
            case "of": return new int[] {contract, random.nextInt(14), 0, 0};
            case "day": return new int[] {later, 0, 0, 0};
            case "law": return lawArguments();
            case "sue": return new int[] {claim, 0, 0, 0};
            case "bond": return new int[] {claim, random.nextInt(4) / 3, 0, 0};
            case "judge": case "bar": case "worth":
                return new int[] {claim, later - random.nextInt(4), 0, 0};
            case "rank": return new int[] {claim, random.nextInt(2), 0, 0};
            case "loan": return new int[] {party, amount(), 0, 0};
            case "sale": return saleArguments(aim);
            case "sign": return new int[] {contract, aim, random.nextInt(2), 0};
            case "in": return new int[] {party, one(oracle.contracts() + 1) - 1, amount(), 0};
            case "held":
                return new int[] {party, one(oracle.contracts() + 1) - 1, random.nextInt(3), 0};
            case "out": return new int[] {party, amount(), 0, 0};
            case "trace": return new int[] {one(oracle.ins()), random.nextInt(3), 0, 0};
            case "tell": return new int[] {amount(), 0, 0, 0};
            case "check": return checkArguments(aim);
            case "count": return new int[] {one(10), 0, 0, 0};
            default: return new int[] {1 + one(5), 0, 0, 0};
        }
    }

    private int[] lawArguments() {
        int what = random.nextInt(6);
        int[] values = {random.nextInt(4) * dayScale, random.nextInt(5) * dayScale,
            random.nextInt(8) * dayScale, 1 + random.nextInt(5), random.nextInt(3), random.nextInt(2)};
        return new int[] {what, values[what], 0, 0};
    }

    private int[] saleArguments(int coin) {
        int whose = random.nextInt(3);
        int[] many = {oracle.loanCount(), oracle.claims(), 1};
        return new int[] {coin, random.nextInt(2), whose, one(many[whose])};
    }

    /** Tells the right numbers first, or some of them, now and then with one wrong. */
    private int[] checkArguments(int coin) {
        boolean isRoom = asked + 1 + MOST_WAITING < CALLS;
        if (isRoom && random.nextInt(3) > 0) {
            compare(CHECK, 0);
            int many = random.nextInt(oracle.claims() + 1);
            int wrong = random.nextInt(2 * many + 1);
            for (int i = 0; i < many; i++) {
                compare(TELL, oracle.shareInSale(i, coin) + (i == wrong ? 1 : 0));
            }
        }
        return new int[] {coin, 0, 0, 0};
    }
}
