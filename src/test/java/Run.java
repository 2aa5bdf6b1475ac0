import java.util.ArrayList;
import java.util.List;

/**
 * A run of calls that a test makes on as many new objects as it wants, so that each question is
 * asked of an object of its own. Calls are told as text, "contract 0 1 1000; began 0 0 0".
 */
final class Run {
    private static final int LOW = -1000000000;

    private final List<String> calls;

    private Run(List<String> calls) {
        this.calls = calls;
    }

    static Run of(String calls) {
        return new Run(List.of()).then(calls);
    }

    /** Builders 1 .. n, each paid 1000 by the one ahead of it: contract i is of DEGREE i + 1. */
    static Run chain(int n) {
        return of("").each(1, n, "party 2").each(1, n, "contract #-1 # 1000");
    }

    /** Builders 1 .. n, each paid 1000 by THE OWNER. */
    static Run row(int n) {
        return of("").each(1, n, "party 2").each(1, n, "contract 0 # 1000");
    }

    Run then(String more) {
        List<String> all = new ArrayList<>(calls);
        for (String call : more.split(";")) {
            if (!call.isBlank()) {
                all.add(call.trim());
            }
        }
        return new Run(all);
    }

    /** The same calls for each number; they name it as #, and the one ahead of it as #-1. */
    Run each(int first, int last, String more) {
        Run longer = this;
        for (int i = first; i <= last; i++) {
            longer = longer.then(more.replace("#-1", "" + (i - 1)).replace("#", "" + i));
        }
        return longer;
    }

    void answers(String call, int due) {
        Due.same(call, made().ask(call), due);
    }

    /** The call answers a finding, and behind it all but what found() tells is as it was. */
    void refuses(String call, int finding) {
        refusesAs(call, finding, this);
    }

    /** The call answers a finding, and behind it all but what found() tells is as behind like. */
    void refusesAs(String call, int finding, Run like) {
        for (String[] view : View.ALL) {
            Made refused = made();
            Due.same(call, refused.ask(call), finding);
            List<Integer> due = like.made().answersTo(view);
            List<Integer> got = refused.answersTo(view);
            for (int i = 0; i < view.length; i++) {
                boolean isItsCount = view[i].equals("found " + (LOW - finding));
                Due.same(view[i] + " behind " + call, got.get(i), due.get(i) + (isItsCount ? 1 : 0));
            }
        }
    }

    /** The numbers that ? may be: both ends are taken, and what lies beyond them is refused. */
    void range(String call, int least, int most) {
        takes(call.replace("?", "" + least));
        takes(call.replace("?", "" + most));
        refuses(call.replace("?", "" + (least - 1)), Due.BEYOND);
        refuses(call.replace("?", "" + (most + 1)), Due.BEYOND);
        refuses(call.replace("?", "least"), Due.BEYOND);
        refuses(call.replace("?", "most"), Due.BEYOND);
    }

    void takes(String call) {
        Due.holds(call + " is taken", made().ask(call) >= LOW);
    }

    private Made made() {
        Made made = new Made();
        for (String call : calls) {
            Due.holds(call + " is taken on the way", made.ask(call) >= LOW);
        }
        return made;
    }

    /** A new object, and how many calls it has had: the document tells nothing behind the 512th. */
    private static final class Made {
        private static final int MOST_CALLS = 512;

        private final LienTower tower = new LienTower();
        private int asked = 0;

        int ask(String call) {
            asked++;
            Due.holds("call number " + asked, asked <= MOST_CALLS);
            return Calls.answer(tower, call);
        }

        /** A view names the DAY as @. */
        List<Integer> answersTo(String[] view) {
            String today = "" + ask("count 7");
            List<Integer> answers = new ArrayList<>();
            for (String call : view) {
                answers.add(ask(call.replace("@", today)));
            }
            return answers;
        }
    }
}
