import java.util.List;

/** Compares answers with those that are due, and names the line of each that is wrong. */
final class Due {
    static final int BEYOND = -1000000001;
    static final int STATE = -1000000003;
    static final int FULL = -1000000004;
    static final int KIND = -1000000005;

    private static final List<String> HELPERS = List.of("Due", "Run", "Run$Made");

    private static int asked = 0;
    private static int wrong = 0;

    private Due() {
    }

    static void is(long got, long want) {
        same("", got, want);
    }

    static void same(String what, long got, long want) {
        asked++;
        if (got != want) {
            wrong++;
            System.out.println(caller() + ": " + what + " answered " + got + ", due is " + want);
        }
    }

    static void holds(String what, boolean it) {
        same(what, it ? 1 : 0, 1);
    }

    static int wrongSoFar() {
        return wrong;
    }

    /** To be called last in main. */
    static void end() {
        System.out.println("  " + asked + " answers looked at, " + wrong + " of them wrong");
        if (wrong != 0 || asked == 0) {
            System.exit(1);
        }
    }

    private static String caller() {
        for (StackTraceElement e : new Throwable().getStackTrace()) {
            if (!HELPERS.contains(e.getClassName())) {
                return e.getFileName() + ":" + e.getLineNumber();
            }
        }
        return "?";
    }
}
