import java.util.ArrayList;
import java.util.List;

/**
 * Calls that tell all of an object that can be told, in two parts, so that a long run and one part
 * stay within 512 calls. Those that change the object stand last, and ask each thing but once.
 */
final class View {
    static final String[][] ALL = {partiesAndContracts(), claimsAndCoin()};

    private View() {
    }

    private static String[] partiesAndContracts() {
        List<String> calls = new ArrayList<>();
        add(calls, 1, 5, "found #");
        add(calls, 0, 9, "count #");
        for (int kind = 0; kind <= 3; kind++) {
            add(calls, 0, 11, "as # " + kind);
        }
        for (int what = 0; what <= 13; what++) {
            add(calls, 0, 9, "of # " + what);
        }
        int[] lawsAtFirst = {20, 90, 180, 3, 1, 0};
        for (int what = 0; what < lawsAtFirst.length; what++) {
            calls.add("law " + what + " " + lawsAtFirst[what]);
        }
        return calls.toArray(new String[0]);
    }

    private static String[] claimsAndCoin() {
        List<String> calls = new ArrayList<>();
        add(calls, 1, 5, "found #");
        add(calls, 0, 15, "bar # @");
        add(calls, 0, 15, "worth # @");
        add(calls, 0, 15, "rank # 0");
        add(calls, 0, 15, "rank # 1");
        add(calls, 0, 5, "sale 10000000 0 0 #");
        add(calls, 0, 15, "sale 10000000 0 1 #");
        add(calls, 0, 9, "twice #");
        add(calls, 0, 9, "sign # 0 0");
        for (int rule = 0; rule <= 2; rule++) {
            add(calls, 0, 39, "trace # " + rule);
        }
        add(calls, 1, 11, "held # -1 2");
        add(calls, 0, 15, "bond # 0");
        add(calls, 0, 15, "sue #");
        calls.add("check 10000000");
        return calls.toArray(new String[0]);
    }

    private static void add(List<String> calls, int first, int last, String call) {
        for (int i = first; i <= last; i++) {
            calls.add(call.replace("#", "" + i));
        }
    }
}
