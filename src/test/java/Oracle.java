import java.util.ArrayList;
import java.util.Comparator;
import java.util.List;
import java.util.TreeMap;

/**
 * The document once more, told in another way than LienTower tells it: nothing is kept but what
 * was done, and every answer is worked out anew from that. RandomRunsTest compares the two.
 */
final class Oracle {
    private static final int LOW = -1000000000;

    private static final class Deal {
        int payer;
        int payee;
        int sum;
        int paid;
        Deal upper;
        Integer notice;
        int[] began;
        int[] ended;
        final List<int[]> waivers = new ArrayList<>();

        int degree() {
            return upper == null ? 1 : upper.degree() + 1;
        }

        int waived() {
            return waivers.stream().filter(w -> w[1] == 0 || paid >= w[0])
                    .mapToInt(w -> w[0]).max().orElse(0);
        }

        int open() {
            return Math.max(0, Math.min(sum - paid, sum - waived()));
        }

        boolean isUnder(Deal top) {
            return upper != null && (upper == top || upper.isUnder(top));
        }
    }

    private static final class Lien {
        Deal deal;
        int amount;
        int filed;
        Integer sued;
        int bonded;
    }

    /** One who shares in a sale. */
    private static final class Sharer {
        final boolean isLoan;
        final int number;
        final int rank;
        final long worth;
        long has;

        Sharer(boolean isLoan, int number, int rank, long worth) {
            this.isLoan = isLoan;
            this.number = number;
            this.rank = rank;
            this.worth = worth;
        }
    }

    private final List<Integer> kinds = new ArrayList<>(List.of(0));
    private final List<Deal> deals = new ArrayList<>();
    private final List<Lien> liens = new ArrayList<>();
    private final List<int[]> loans = new ArrayList<>();
    /** INS as party, contract, coin; OUTS as party, coin: in the order in which they came. */
    private final List<int[]> moves = new ArrayList<>();
    private final List<Integer> waiting = new ArrayList<>();
    private final int[] laws = {20, 90, 180, 3, 1, 0};
    private final int[] found = new int[6];
    private int today = 0;

    private int no(int k) {
        found[k]++;
        return LOW - k;
    }

    private static boolean isOut(int v, int least, int most) {
        return v < least || v > most;
    }

    private boolean noParty(int p) {
        return isOut(p, 0, kinds.size() - 1);
    }

    private boolean noDeal(int c) {
        return isOut(c, 0, deals.size() - 1);
    }

    private boolean noLien(int c) {
        return isOut(c, 0, liens.size() - 1);
    }

    private boolean builds(int party) {
        return kinds.get(party) >= 2;
    }

    int party(int kind) {
        if (isOut(kind, 0, 3)) {
            return no(1);
        }
        if (kinds.size() == 12) {
            return no(4);
        }
        kinds.add(kind);
        return kinds.size() - 1;
    }

    int as(int party, int kind) {
        if (noParty(party) || isOut(kind, 0, 3)) {
            return no(1);
        }
        int[] above = {-1, 0, 0, 2};
        boolean is = false;
        for (int k = kinds.get(party); k >= 0; k = above[k]) {
            is |= k == kind;
        }
        return is ? (int) deals.stream().filter(d -> d.payer == party).count() : no(5);
    }

    int contract(int payer, int payee, int sum) {
        if (noParty(payer) || noParty(payee) || isOut(sum, 1, 100000)) {
            return no(1);
        }
        if (!builds(payee) || (payer != 0 && kinds.get(payer) != 2)) {
            return no(5);
        }
        Deal upper = deals.stream().filter(d -> d.payee == payer).findFirst().orElse(null);
        if (deals.stream().anyMatch(d -> d.payee == payee) || (payer != 0 && upper == null)) {
            return no(3);
        }
        if (deals.size() == 10) {
            return no(4);
        }
        Deal deal = new Deal();
        deal.payer = payer;
        deal.payee = payee;
        deal.sum = sum;
        deal.upper = upper;
        deals.add(deal);
        return deals.size() - 1;
    }

    int extra(int contract, int more) {
        if (noDeal(contract) || isOut(more, 1, 100000)) {
            return no(1);
        }
        if (deals.get(contract).sum > 1000000 - more) {
            return no(4);
        }
        return deals.get(contract).sum += more;
    }

    int began(int contract, int first, int last) {
        if (noDeal(contract) || first < 0 || last < first || last > today) {
            return no(1);
        }
        if (deals.get(contract).ended != null) {
            return no(3);
        }
        deals.get(contract).began = new int[] {first, last};
        return 1;
    }

    int ended(int contract, int first, int last) {
        if (noDeal(contract) || first < 0 || last < first || last > today) {
            return no(1);
        }
        Deal deal = deals.get(contract);
        if (deal.began == null) {
            return no(3);
        }
        if (first < deal.began[0] || last < deal.began[0]) {
            return no(1);
        }
        deal.ended = new int[] {first, last};
        return 1;
    }

    int notice(int contract) {
        if (noDeal(contract)) {
            return no(1);
        }
        if (deals.get(contract).notice != null) {
            return no(3);
        }
        deals.get(contract).notice = today;
        return 1;
    }

    int pay(int contract, int sum) {
        if (noDeal(contract) || isOut(sum, 1, 100000)) {
            return no(1);
        }
        Deal deal = deals.get(contract);
        if (deal.paid + sum > deal.sum) {
            return no(3);
        }
        deal.paid += sum;
        return deal.sum - deal.paid;
    }

    int waive(int contract, int amount, int is) {
        if (noDeal(contract) || isOut(amount, 0, 1000000) || isOut(is, 0, 1)) {
            return no(1);
        }
        if (allWaivers() == 20) {
            return no(4);
        }
        deals.get(contract).waivers.add(new int[] {amount, is});
        return deals.get(contract).waived();
    }

    private int allWaivers() {
        return deals.stream().mapToInt(d -> d.waivers.size()).sum();
    }

    int of(int contract, int what) {
        if (noDeal(contract) || isOut(what, 0, 13)) {
            return no(1);
        }
        Deal d = deals.get(contract);
        int[] none = {-1, -1};
        int[] b = d.began == null ? none : d.began;
        int[] e = d.ended == null ? none : d.ended;
        return new int[] {d.payer, d.payee, d.sum, d.paid, d.sum - d.paid, d.waived(), d.open(),
            d.degree(), deals.indexOf(d.upper), d.notice == null ? -1 : d.notice,
            b[0], b[1], e[0], e[1]}[what];
    }

    int day(int day) {
        if (isOut(day, 0, 5000) || day < today) {
            return no(1);
        }
        int went = day - today;
        today = day;
        return went;
    }

    int law(int what, int v) {
        int[][] spans = {{0, 365}, {0, 365}, {0, 1000}, {1, 9}, {0, 2}, {0, 1}};
        if (isOut(what, 0, 5) || isOut(v, spans[what][0], spans[what][1])) {
            return no(1);
        }
        int was = laws[what];
        laws[what] = v;
        return was;
    }

    int file(int contract, int amount) {
        if (noDeal(contract) || isOut(amount, 1, 1000000)) {
            return no(1);
        }
        if (deals.get(contract).began == null) {
            return no(3);
        }
        if (liens.size() == 16) {
            return no(4);
        }
        Lien lien = new Lien();
        lien.deal = deals.get(contract);
        lien.amount = amount;
        lien.filed = today;
        liens.add(lien);
        return liens.size() - 1;
    }

    int sue(int claim) {
        if (noLien(claim)) {
            return no(1);
        }
        if (liens.get(claim).sued != null) {
            return no(3);
        }
        liens.get(claim).sued = today;
        return 1;
    }

    int bond(int claim, int is) {
        if (noLien(claim) || isOut(is, 0, 1)) {
            return no(1);
        }
        int was = liens.get(claim).bonded;
        liens.get(claim).bonded = is;
        return was;
    }

    /** For each bar, in order: how sure it is (0 not, 1 perhaps, 2 surely). */
    private int[] bars(Lien l, int day) {
        int[] sure = new int[6];
        Deal d = l.deal;
        sure[1] = d.degree() > laws[3] ? 2 : 0;
        if (d.degree() >= 2) {
            sure[2] = d.notice == null ? 2 : lateFor(d.notice, d.began, laws[0]);
        }
        sure[3] = d.ended == null ? 0 : lateFor(l.filed, d.ended, laws[1]);
        boolean over = day - l.filed > laws[2];
        boolean sued = l.sued != null && l.sued - l.filed <= laws[2];
        sure[4] = over && !sued ? 2 : 0;
        sure[5] = d.open() == 0 ? 2 : 0;
        return sure;
    }

    /** It is late surely if it is so for every day of the span, perhaps if for some. */
    private static int lateFor(int day, int[] span, int within) {
        boolean forAll = true;
        boolean forSome = false;
        for (int from : span) {
            boolean late = day - from > within;
            forAll &= late;
            forSome |= late;
        }
        return forAll ? 2 : forSome ? 1 : 0;
    }

    private int verdict(Lien l, int day) {
        int worst = 0;
        for (int sure : bars(l, day)) {
            worst = Math.max(worst, sure);
        }
        return 2 - worst;
    }

    int judge(int claim, int day) {
        if (noLien(claim) || isOut(day, liens.get(claim).filed, 5000)) {
            return no(1);
        }
        return verdict(liens.get(claim), day);
    }

    int bar(int claim, int day) {
        if (noLien(claim) || isOut(day, liens.get(claim).filed, 5000)) {
            return no(1);
        }
        int[] sure = bars(liens.get(claim), day);
        for (int degree = 2; degree >= 1; degree--) {
            for (int b = 1; b <= 5; b++) {
                if (sure[b] == degree) {
                    return degree == 2 ? b : 10 + b;
                }
            }
        }
        return 0;
    }

    private int worthOf(Lien l, int day) {
        if (l.filed > day || verdict(l, day) == 0) {
            return 0;
        }
        int bound = l.deal.open();
        if (laws[5] == 1) {
            for (Deal up = l.deal.upper; up != null; up = up.upper) {
                bound = Math.min(bound, up.sum - up.paid);
            }
        }
        for (Lien other : liens) {
            if (other == l) {
                break;
            }
            if (other.deal == l.deal) {
                bound -= worthOf(other, day);
            }
        }
        return Math.min(l.amount, bound);
    }

    int worth(int claim, int day) {
        return noLien(claim) || isOut(day, 0, 5000) ? no(1) : worthOf(liens.get(claim), day);
    }

    private int rankOf(Lien l, int which) {
        if (laws[4] == 2) {
            return l.filed;
        }
        if (laws[4] == 0) {
            return l.deal.began[which];
        }
        return deals.stream().filter(d -> d.began != null).mapToInt(d -> d.began[which])
                .min().getAsInt();
    }

    int rank(int claim, int which) {
        return noLien(claim) || isOut(which, 0, 1) ? no(1) : rankOf(liens.get(claim), which);
    }

    int loan(int lender, int sum) {
        if (noParty(lender) || isOut(sum, 1, 1000000)) {
            return no(1);
        }
        if (kinds.get(lender) != 1) {
            return no(5);
        }
        if (loans.size() == 6) {
            return no(4);
        }
        loans.add(new int[] {sum, today});
        return loans.size() - 1;
    }

    private List<Sharer> shared(long coin, int which) {
        List<Sharer> all = new ArrayList<>();
        for (int i = 0; i < loans.size(); i++) {
            all.add(new Sharer(true, i, loans.get(i)[1], loans.get(i)[0]));
        }
        for (int i = 0; i < liens.size(); i++) {
            Lien l = liens.get(i);
            if (l.bonded == 0 && verdict(l, today) > which) {
                all.add(new Sharer(false, i, rankOf(l, which), worthOf(l, today)));
            }
        }
        TreeMap<Integer, List<Sharer>> ranks = new TreeMap<>(Comparator.naturalOrder());
        for (Sharer s : all) {
            ranks.computeIfAbsent(s.rank, r -> new ArrayList<>()).add(s);
        }
        long left = coin;
        for (List<Sharer> rank : ranks.values()) {
            long sum = rank.stream().mapToLong(s -> s.worth).sum();
            if (sum <= left) {
                rank.forEach(s -> s.has = s.worth);
                left -= sum;
                continue;
            }
            long odd = left;
            for (Sharer s : rank) {
                s.has = left * s.worth / sum;
                odd -= s.has;
            }
            for (int i = 0; i < odd; i++) {
                rank.get(i).has++;
            }
            break;
        }
        return all;
    }

    private int shareOf(List<Sharer> all, boolean isLoan, int n) {
        return (int) all.stream().filter(s -> s.isLoan == isLoan && s.number == n)
                .mapToLong(s -> s.has).sum();
    }

    int sale(int coin, int which, int whose, int n) {
        int[] many = {loans.size(), liens.size(), 1};
        if (isOut(coin, 0, 10000000) || isOut(which, 0, 1) || isOut(whose, 0, 2)
                || isOut(n, 0, many[whose] - 1)) {
            return no(1);
        }
        List<Sharer> all = shared(coin, which);
        if (whose == 2) {
            return (int) (coin - all.stream().mapToLong(s -> s.has).sum());
        }
        return shareOf(all, whose == 0, n);
    }

    int twice(int contract) {
        if (noDeal(contract)) {
            return no(1);
        }
        Deal top = deals.get(contract);
        if (top.degree() != 1) {
            return no(3);
        }
        int below = liens.stream().filter(l -> l.deal.isUnder(top))
                .mapToInt(l -> worthOf(l, today)).sum();
        return Math.max(0, below - (top.sum - top.paid));
    }

    int sign(int contract, int amount, int what) {
        if (noDeal(contract) || isOut(amount, 0, 1000000) || isOut(what, 0, 1)) {
            return no(1);
        }
        Deal top = deals.get(contract);
        if (top.degree() != 1) {
            return no(3);
        }
        for (int fewest = 0; fewest <= 10; fewest++) {
            for (int set = 0; set < 1024; set++) {
                if (Integer.bitCount(set) == fewest && isDrawn(top, set, amount)) {
                    return what == 0 ? set : fewest;
                }
            }
        }
        throw new IllegalStateException("all signing is enough");
    }

    private boolean isDrawn(Deal top, int set, int amount) {
        int open = 0;
        for (int i = 0; i < 10; i++) {
            boolean signs = (set & 1 << i) != 0;
            if (i >= deals.size() || !deals.get(i).isUnder(top)) {
                if (signs) {
                    return false;
                }
            } else if (!signs && deals.get(i).degree() <= laws[3]) {
                open += deals.get(i).open();
            }
        }
        return open <= amount;
    }

    private int moved(int length) {
        return (int) moves.stream().filter(m -> m.length == length).count();
    }

    private boolean noPurpose(int contract) {
        return contract != -1 && noDeal(contract);
    }

    int in(int party, int contract, int coin) {
        if (noParty(party) || noPurpose(contract) || isOut(coin, 1, 100000)) {
            return no(1);
        }
        if (!builds(party)) {
            return no(5);
        }
        if (contract != -1 && deals.get(contract).payer != party
                && deals.get(contract).payee != party) {
            return no(3);
        }
        if (moved(3) == 40) {
            return no(4);
        }
        moves.add(new int[] {party, contract, coin});
        return moved(3) - 1;
    }

    int out(int party, int coin) {
        if (noParty(party) || isOut(coin, 1, 1000000)) {
            return no(1);
        }
        if (!builds(party)) {
            return no(5);
        }
        int balance = 0;
        for (int[] m : moves) {
            if (m[0] == party) {
                balance += m.length == 3 ? m[2] : -m[1];
            }
        }
        if (balance < coin) {
            return no(3);
        }
        if (moved(2) == 40) {
            return no(4);
        }
        moves.add(new int[] {party, coin});
        return balance - coin;
    }

    /** All INS as party, contract, what is left: coin by coin, for each OUT as it came. */
    private List<int[]> traced(int rule) {
        List<int[]> ins = new ArrayList<>();
        for (int[] m : moves) {
            if (m.length == 3) {
                ins.add(m.clone());
                continue;
            }
            List<int[]> order = new ArrayList<>();
            for (int[] in : ins) {
                if (in[0] == m[0]) {
                    order.add(rule == 1 ? 0 : order.size(), in);
                }
            }
            if (rule == 2) {
                order.sort(Comparator.comparingInt(in -> in[1] == -1 ? 0 : 1));
            }
            int due = m[1];
            for (int[] in : order) {
                int part = Math.min(due, in[2]);
                in[2] -= part;
                due -= part;
            }
        }
        return ins;
    }

    int trace(int in, int rule) {
        if (isOut(in, 0, moved(3) - 1) || isOut(rule, 0, 2)) {
            return no(1);
        }
        return traced(rule).get(in)[2];
    }

    int held(int party, int contract, int rule) {
        if (noParty(party) || noPurpose(contract) || isOut(rule, 0, 2)) {
            return no(1);
        }
        if (!builds(party)) {
            return no(5);
        }
        return traced(rule).stream().filter(in -> in[0] == party && in[1] == contract)
                .mapToInt(in -> in[2]).sum();
    }

    int tell(int v) {
        if (waiting.size() == 16) {
            return no(4);
        }
        waiting.add(v);
        return waiting.size();
    }

    int check(int coin) {
        List<Integer> told = new ArrayList<>(waiting);
        waiting.clear();
        if (isOut(coin, 0, 10000000)) {
            return no(1);
        }
        List<Sharer> all = shared(coin, 0);
        for (int i = 0; i < told.size(); i++) {
            if (i >= liens.size() || told.get(i) != shareOf(all, false, i)) {
                return 1 + i;
            }
        }
        return 0;
    }

    int count(int what) {
        if (isOut(what, 0, 9)) {
            return no(1);
        }
        int good = (int) liens.stream().filter(l -> verdict(l, today) == 2).count();
        return new int[] {kinds.size(), deals.size(), liens.size(), loans.size(), allWaivers(),
            moved(3), moved(2), today, waiting.size(), good}[what];
    }

    int found(int k) {
        return isOut(k, 1, 5) ? no(1) : found[k];
    }

    /** What a claim would have, for a test that wants to tell check() the right numbers. */
    int shareInSale(int claim, int coin) {
        return shareOf(shared(coin, 0), false, claim);
    }

    int parties() {
        return kinds.size();
    }

    int contracts() {
        return deals.size();
    }

    int claims() {
        return liens.size();
    }

    int loanCount() {
        return loans.size();
    }

    int ins() {
        return moved(3);
    }

    int today() {
        return today;
    }
}
