/**
 * Liens on a building: contracts down a chain of builders, claims on the land, loans, sales of the
 * land, and coin traced through mixed accounts. Its rules are the promises of ../shared/DOC.md.
 *
 * <p>All rows are made with the object and used again; no call makes an object or an array.
 */
public final class LienTower {
    private static final int LOW = -1000000000;
    private static final int BEYOND = 1;
    private static final int STATE = 3;
    private static final int FULL = 4;
    private static final int KIND = 5;
    private static final int FINDINGS = 5;

    private static final int OWNER = 0;
    private static final int LENDER = 1;
    private static final int BUILDER = 2;
    private static final int SUPPLIER = 3;

    private static final int NO_DAY = -1;
    private static final int NO_CONTRACT = -1;
    private static final int OWN_COIN = -1;

    private static final int LAST_DAY = 5000;
    private static final int MOST_PARTIES = 12;
    private static final int MOST_CONTRACTS = 10;
    private static final int MOST_WAIVERS = 20;
    private static final int MOST_CLAIMS = 16;
    private static final int MOST_LOANS = 6;
    private static final int MOST_INS = 40;
    private static final int MOST_OUTS = 40;
    private static final int MOST_WAITING = 16;

    private static final int HUNDRED_THOUSAND = 100000;
    private static final int MILLION = 1000000;
    private static final int MOST_SALE_COIN = 10000000;

    private static final int LAW_NOTICE = 0;
    private static final int LAW_FILE = 1;
    private static final int LAW_SUIT = 2;
    private static final int LAW_CHAIN = 3;
    private static final int LAW_RELATES = 4;
    private static final int LAW_CAPPED = 5;
    private static final int[] LAW_LEAST = {0, 0, 0, 1, 0, 0};
    private static final int[] LAW_MOST = {365, 365, 1000, 9, 2, 1};

    private static final int TO_OWN_BEGINNING = 0;
    private static final int TO_FIRST_SPADE = 1;

    private static final int BAD = 0;
    private static final int PERHAPS = 1;
    private static final int GOOD = 2;

    private static final int EARLIEST = 0;
    private static final int LATEST = 1;

    private static final int FIRST_GOES_FIRST = 0;
    private static final int LAST_GOES_FIRST = 1;
    private static final int OWN_GOES_FIRST = 2;
    private static final int RULES = 3;

    private final int[] kinds;
    private int parties;
    private final Book book;
    private final Docket docket;
    private final Land land;
    private final Accounts accounts;
    private int today;
    private final int[] waiting;
    private int waitingCount;
    private final int[] findings;

    public LienTower() {
        kinds = new int[MOST_PARTIES];
        parties = 1;
        book = new Book();
        docket = new Docket(book);
        land = new Land(docket);
        accounts = new Accounts();
        waiting = new int[MOST_WAITING];
        findings = new int[FINDINGS + 1];
    }

    // ---- parties and contracts

    public int party(int kind) {
        if (!isKindNumber(kind)) {
            return finding(BEYOND);
        }
        if (parties >= MOST_PARTIES) {
            return finding(FULL);
        }
        kinds[parties] = kind;
        parties++;
        return parties - 1;
    }

    public int as(int party, int kind) {
        if (!isParty(party) || !isKindNumber(kind)) {
            return finding(BEYOND);
        }
        if (!isOfKind(party, kind)) {
            return finding(KIND);
        }
        return book.howManyPaidBy(party);
    }

    public int contract(int payer, int payee, int sum) {
        if (!isParty(payer) || !isParty(payee) || !within(sum, 1, HUNDRED_THOUSAND)) {
            return finding(BEYOND);
        }
        if (!isOfKind(payee, BUILDER) || (payer != OWNER && kinds[payer] != BUILDER)) {
            return finding(KIND);
        }
        boolean payerIsPaid = payer == OWNER || book.whosePayeeIs(payer) != NO_CONTRACT;
        if (payer == payee || !payerIsPaid || book.whosePayeeIs(payee) != NO_CONTRACT) {
            return finding(STATE);
        }
        if (book.count >= MOST_CONTRACTS) {
            return finding(FULL);
        }
        return book.agree(payer, payee, sum);
    }

    public int extra(int contract, int more) {
        if (!book.has(contract) || !within(more, 1, HUNDRED_THOUSAND)) {
            return finding(BEYOND);
        }
        Contract row = book.contracts[contract];
        if (row.sum + more > MILLION) {
            return finding(FULL);
        }
        row.sum += more;
        return row.sum;
    }

    public int began(int contract, int first, int last) {
        if (!book.has(contract) || !isSpanUpToToday(first, last)) {
            return finding(BEYOND);
        }
        Contract row = book.contracts[contract];
        if (row.hasEnded()) {
            return finding(STATE);
        }
        row.beganFirst = first;
        row.beganLast = last;
        return 1;
    }

    public int ended(int contract, int first, int last) {
        if (!book.has(contract) || !isSpanUpToToday(first, last)) {
            return finding(BEYOND);
        }
        Contract row = book.contracts[contract];
        // A contract that has not begun has NO_DAY here, which is ahead of every day.
        if (first < row.beganFirst) {
            return finding(BEYOND);
        }
        if (!row.hasBegun()) {
            return finding(STATE);
        }
        row.endedFirst = first;
        row.endedLast = last;
        return 1;
    }

    public int notice(int contract) {
        if (!book.has(contract)) {
            return finding(BEYOND);
        }
        Contract row = book.contracts[contract];
        if (row.noticeDay != NO_DAY) {
            return finding(STATE);
        }
        row.noticeDay = today;
        return 1;
    }

    public int pay(int contract, int sum) {
        if (!book.has(contract) || !within(sum, 1, HUNDRED_THOUSAND)) {
            return finding(BEYOND);
        }
        Contract row = book.contracts[contract];
        if (sum > row.owing()) {
            return finding(STATE);
        }
        row.paid += sum;
        book.settleWaived(contract);
        return row.owing();
    }

    public int waive(int contract, int amount, int is) {
        if (!book.has(contract) || !within(amount, 0, MILLION) || !within(is, 0, 1)) {
            return finding(BEYOND);
        }
        if (book.waivers >= MOST_WAIVERS) {
            return finding(FULL);
        }
        book.addWaiver(contract, amount, is);
        return book.contracts[contract].waived;
    }

    public int of(int contract, int what) {
        if (!book.has(contract) || !within(what, 0, 13)) {
            return finding(BEYOND);
        }
        return book.contracts[contract].detail(what);
    }

    public int day(int day) {
        if (!within(day, today, LAST_DAY)) {
            return finding(BEYOND);
        }
        int wentBy = day - today;
        today = day;
        return wentBy;
    }

    // ---- the law, claims

    public int law(int what, int v) {
        if (!within(what, 0, LAW_CAPPED) || !within(v, LAW_LEAST[what], LAW_MOST[what])) {
            return finding(BEYOND);
        }
        int before = docket.laws[what];
        docket.laws[what] = v;
        return before;
    }

    public int file(int contract, int amount) {
        if (!book.has(contract) || !within(amount, 1, MILLION)) {
            return finding(BEYOND);
        }
        if (!book.contracts[contract].hasBegun()) {
            return finding(STATE);
        }
        if (docket.count >= MOST_CLAIMS) {
            return finding(FULL);
        }
        return docket.enter(contract, amount, today);
    }

    public int sue(int claim) {
        if (!docket.has(claim)) {
            return finding(BEYOND);
        }
        Claim row = docket.claims[claim];
        if (row.suedDay != NO_DAY) {
            return finding(STATE);
        }
        row.suedDay = today;
        return 1;
    }

    public int bond(int claim, int is) {
        if (!docket.has(claim) || !within(is, 0, 1)) {
            return finding(BEYOND);
        }
        Claim row = docket.claims[claim];
        int before = row.bonded;
        row.bonded = is;
        return before;
    }

    public int judge(int claim, int day) {
        if (!isJudgeable(claim, day)) {
            return finding(BEYOND);
        }
        return Docket.verdictOfBar(docket.barOn(claim, day));
    }

    public int bar(int claim, int day) {
        if (!isJudgeable(claim, day)) {
            return finding(BEYOND);
        }
        return docket.barOn(claim, day);
    }

    public int worth(int claim, int day) {
        if (!docket.has(claim) || !within(day, 0, LAST_DAY)) {
            return finding(BEYOND);
        }
        docket.weigh(day);
        return docket.worths[claim];
    }

    public int rank(int claim, int which) {
        if (!docket.has(claim) || !within(which, EARLIEST, LATEST)) {
            return finding(BEYOND);
        }
        return docket.rankDay(claim, which);
    }

    // ---- loans, sales, draws

    public int loan(int lender, int sum) {
        if (!isParty(lender) || !within(sum, 1, MILLION)) {
            return finding(BEYOND);
        }
        if (kinds[lender] != LENDER) {
            return finding(KIND);
        }
        if (land.loans >= MOST_LOANS) {
            return finding(FULL);
        }
        return land.record(sum, today);
    }

    public int sale(int coin, int which, int whose, int n) {
        if (!isSaleCoin(coin) || !within(which, EARLIEST, LATEST) || !isSharer(whose, n)) {
            return finding(BEYOND);
        }
        land.sell(coin, which, today);
        if (whose == 0) {
            return land.loanShare(n);
        }
        return whose == 1 ? land.claimShare(n) : land.left;
    }

    public int twice(int contract) {
        if (!book.has(contract)) {
            return finding(BEYOND);
        }
        Contract row = book.contracts[contract];
        if (row.degree != 1) {
            return finding(STATE);
        }
        return Math.max(0, docket.worthBelow(contract, today) - row.owing());
    }

    public int sign(int contract, int amount, int what) {
        if (!book.has(contract) || !within(amount, 0, MILLION) || !within(what, 0, 1)) {
            return finding(BEYOND);
        }
        if (book.contracts[contract].degree != 1) {
            return finding(STATE);
        }
        int signers = book.fewestSigners(contract, amount, docket.laws[LAW_CHAIN]);
        return what == 0 ? signers : Integer.bitCount(signers);
    }

    // ---- accounts

    public int in(int party, int contract, int coin) {
        if (!isParty(party) || !isPurpose(contract) || !within(coin, 1, HUNDRED_THOUSAND)) {
            return finding(BEYOND);
        }
        if (!isOfKind(party, BUILDER)) {
            return finding(KIND);
        }
        if (contract != OWN_COIN && !book.contracts[contract].isSideOf(party)) {
            return finding(STATE);
        }
        if (accounts.ins >= MOST_INS) {
            return finding(FULL);
        }
        return accounts.receive(party, contract, coin);
    }

    public int out(int party, int coin) {
        if (!isParty(party) || !within(coin, 1, MILLION)) {
            return finding(BEYOND);
        }
        if (!isOfKind(party, BUILDER)) {
            return finding(KIND);
        }
        int balance = accounts.balance(party);
        if (balance < coin) {
            return finding(STATE);
        }
        if (accounts.outs >= MOST_OUTS) {
            return finding(FULL);
        }
        accounts.spend(party, coin);
        return balance - coin;
    }

    public int trace(int in, int rule) {
        if (!within(in, 0, accounts.ins - 1) || !within(rule, 0, RULES - 1)) {
            return finding(BEYOND);
        }
        return accounts.left[rule][in];
    }

    public int held(int party, int contract, int rule) {
        if (!isParty(party) || !isPurpose(contract) || !within(rule, 0, RULES - 1)) {
            return finding(BEYOND);
        }
        if (!isOfKind(party, BUILDER)) {
            return finding(KIND);
        }
        return accounts.leftFor(party, contract, rule);
    }

    // ---- what is told

    public int tell(int v) {
        if (waitingCount >= MOST_WAITING) {
            return finding(FULL);
        }
        waiting[waitingCount] = v;
        waitingCount++;
        return waitingCount;
    }

    public int check(int coin) {
        int told = waitingCount;
        waitingCount = 0;
        if (!isSaleCoin(coin)) {
            return finding(BEYOND);
        }
        land.sell(coin, EARLIEST, today);
        for (int i = 0; i < told; i++) {
            if (!docket.has(i) || waiting[i] != land.claimShare(i)) {
                return 1 + i;
            }
        }
        return 0;
    }

    public int count(int what) {
        switch (what) {
            case 0: return parties;
            case 1: return book.count;
            case 2: return docket.count;
            case 3: return land.loans;
            case 4: return book.waivers;
            case 5: return accounts.ins;
            case 6: return accounts.outs;
            case 7: return today;
            case 8: return waitingCount;
            case 9: return docket.howManyGood(today);
            default: return finding(BEYOND);
        }
    }

    public int found(int k) {
        if (!within(k, 1, FINDINGS)) {
            return finding(BEYOND);
        }
        return findings[k];
    }

    private int finding(int k) {
        findings[k]++;
        return LOW - k;
    }

    private static boolean within(int v, int least, int most) {
        return v >= least && v <= most;
    }

    private static boolean isKindNumber(int kind) {
        return within(kind, 0, SUPPLIER);
    }

    private boolean isParty(int party) {
        return within(party, 0, parties - 1);
    }

    private boolean isOfKind(int party, int kind) {
        int own = kinds[party];
        return kind == 0 || own == kind || (own == SUPPLIER && kind == BUILDER);
    }

    private boolean isSpanUpToToday(int first, int last) {
        return within(first, 0, last) && last <= today;
    }

    private boolean isJudgeable(int claim, int day) {
        return docket.has(claim) && within(day, docket.claims[claim].filedDay, LAST_DAY);
    }

    private static boolean isSaleCoin(int coin) {
        return within(coin, 0, MOST_SALE_COIN);
    }

    private boolean isSharer(int whose, int n) {
        switch (whose) {
            case 0: return within(n, 0, land.loans - 1);
            case 1: return docket.has(n);
            case 2: return n == 0;
            default: return false;
        }
    }

    private boolean isPurpose(int contract) {
        return contract == OWN_COIN || book.has(contract);
    }

    /** One contract. */
    private static final class Contract {
        int payer;
        int payee;
        int upper;
        /** The contracts it stands below, over others too, as bits by their numbers. */
        int uppers;
        int degree;
        int sum;
        int paid;
        int waived;
        int noticeDay;
        int beganFirst;
        int beganLast;
        int endedFirst;
        int endedLast;

        Contract() {
            upper = NO_CONTRACT;
            degree = 1;
            noticeDay = NO_DAY;
            beganFirst = NO_DAY;
            beganLast = NO_DAY;
            endedFirst = NO_DAY;
            endedLast = NO_DAY;
        }

        int owing() {
            return sum - paid;
        }

        int open() {
            return Math.max(0, sum - Math.max(paid, waived));
        }

        boolean hasBegun() {
            return beganFirst != NO_DAY;
        }

        boolean hasEnded() {
            return endedFirst != NO_DAY;
        }

        boolean isBelow(int top) {
            return (uppers >> top & 1) == 1;
        }

        boolean isSideOf(int party) {
            return payer == party || payee == party;
        }

        int detail(int what) {
            switch (what) {
                case 0: return payer;
                case 1: return payee;
                case 2: return sum;
                case 3: return paid;
                case 4: return owing();
                case 5: return waived;
                case 6: return open();
                case 7: return degree;
                case 8: return upper;
                case 9: return noticeDay;
                case 10: return beganFirst;
                case 11: return beganLast;
                case 12: return endedFirst;
                default: return endedLast;
            }
        }
    }

    /** All contracts, and the waivers on them. */
    private static final class Book {
        final Contract[] contracts;
        int count;
        final int[] waiverContracts;
        final int[] waiverAmounts;
        final int[] waiverConditions;
        int waivers;

        Book() {
            contracts = new Contract[MOST_CONTRACTS];
            for (int i = 0; i < MOST_CONTRACTS; i++) {
                contracts[i] = new Contract();
            }
            waiverContracts = new int[MOST_WAIVERS];
            waiverAmounts = new int[MOST_WAIVERS];
            waiverConditions = new int[MOST_WAIVERS];
        }

        boolean has(int contract) {
            return within(contract, 0, count - 1);
        }

        int whosePayeeIs(int party) {
            for (int i = 0; i < count; i++) {
                if (contracts[i].payee == party) {
                    return i;
                }
            }
            return NO_CONTRACT;
        }

        int howManyPaidBy(int party) {
            int many = 0;
            for (int i = 0; i < count; i++) {
                if (contracts[i].payer == party) {
                    many++;
                }
            }
            return many;
        }

        int agree(int payer, int payee, int sum) {
            Contract row = contracts[count];
            row.payer = payer;
            row.payee = payee;
            row.sum = sum;
            // THE OWNER is no payee, so its contracts have no upper one.
            row.upper = whosePayeeIs(payer);
            if (row.upper != NO_CONTRACT) {
                row.uppers = contracts[row.upper].uppers | 1 << row.upper;
                row.degree = contracts[row.upper].degree + 1;
            }
            count++;
            return count - 1;
        }

        void addWaiver(int contract, int amount, int condition) {
            waiverContracts[waivers] = contract;
            waiverAmounts[waivers] = amount;
            waiverConditions[waivers] = condition;
            waivers++;
            settleWaived(contract);
        }

        /** WAIVED can change by a waiver or a payment alone, so it is told anew after these. */
        void settleWaived(int contract) {
            Contract row = contracts[contract];
            for (int i = 0; i < waivers; i++) {
                boolean holds = waiverConditions[i] == 0 || row.paid >= waiverAmounts[i];
                if (waiverContracts[i] == contract && holds) {
                    row.waived = Math.max(row.waived, waiverAmounts[i]);
                }
            }
        }

        /** The first spade by the earliest or by the latest days; NO_DAY if none has begun. */
        int firstSpade(int which) {
            int least = NO_DAY;
            for (int i = 0; i < count; i++) {
                int day = which == EARLIEST ? contracts[i].beganFirst : contracts[i].beganLast;
                if (day != NO_DAY && (least == NO_DAY || day < least)) {
                    least = day;
                }
            }
            return least;
        }

        /** What a claim of a contract may be worth at most. */
        int boundOf(Contract row, boolean capped) {
            int bound = row.open();
            if (capped) {
                for (int i = 0; i < count; i++) {
                    if (row.isBelow(i)) {
                        bound = Math.min(bound, contracts[i].owing());
                    }
                }
            }
            return bound;
        }

        /** Only contracts that count towards the open amount can be in a set with the fewest. */
        int fewestSigners(int top, int amount, int chain) {
            int all = 0;
            int open = 0;
            for (int i = 0; i < count; i++) {
                if (contracts[i].isBelow(top) && contracts[i].degree <= chain) {
                    all |= 1 << i;
                    open += contracts[i].open();
                }
            }
            int best = all;
            int fewest = Integer.bitCount(all);
            for (int set = 0; set < all; set++) {
                if ((set & ~all) == 0 && Integer.bitCount(set) < fewest
                        && open - openOfSet(set) <= amount) {
                    best = set;
                    fewest = Integer.bitCount(set);
                }
            }
            return best;
        }

        private int openOfSet(int set) {
            int open = 0;
            for (int i = 0; i < count; i++) {
                if ((set >> i & 1) == 1) {
                    open += contracts[i].open();
                }
            }
            return open;
        }
    }

    /** One claim. */
    private static final class Claim {
        int contract;
        int amount;
        int filedDay;
        int suedDay;
        int bonded;

        Claim() {
            suedDay = NO_DAY;
        }
    }

    /** All claims, and the law that judges them. */
    private static final class Docket {
        private static final int NO_BAR = 0;
        private static final int BAR_PERHAPS = 1;
        private static final int BAR_SURE = 2;
        /** Added to the number of a bar that only may be. */
        private static final int MAY_BE = 10;

        final Book book;
        final int[] laws;
        final Claim[] claims;
        int count;
        /** What weigh() told last, by claims. */
        final int[] verdicts;
        final int[] worths;
        /** What earlier claims of a contract have left of its bound, by contracts. */
        private final int[] boundsLeft;

        Docket(Book book) {
            this.book = book;
            laws = new int[] {20, 90, 180, 3, TO_FIRST_SPADE, 0};
            claims = new Claim[MOST_CLAIMS];
            for (int i = 0; i < MOST_CLAIMS; i++) {
                claims[i] = new Claim();
            }
            verdicts = new int[MOST_CLAIMS];
            worths = new int[MOST_CLAIMS];
            boundsLeft = new int[MOST_CONTRACTS];
        }

        boolean has(int claim) {
            return within(claim, 0, count - 1);
        }

        int enter(int contract, int amount, int day) {
            Claim row = claims[count];
            row.contract = contract;
            row.amount = amount;
            row.filedDay = day;
            count++;
            return count - 1;
        }

        /** The first sure bar, else MAY_BE more than the first that may be, else NO_BAR. */
        int barOn(int claim, int day) {
            Claim row = claims[claim];
            Contract contract = book.contracts[row.contract];
            int notice = noticeBar(contract);
            int filing = lateness(row.filedDay, contract.endedFirst, contract.endedLast, LAW_FILE);
            if (contract.degree > laws[LAW_CHAIN]) {
                return 1;
            }
            if (notice == BAR_SURE) {
                return 2;
            }
            if (filing == BAR_SURE) {
                return 3;
            }
            if (isSuitLost(row, day)) {
                return 4;
            }
            if (contract.open() == 0) {
                return 5;
            }
            if (notice == BAR_PERHAPS) {
                return MAY_BE + 2;
            }
            return filing == BAR_PERHAPS ? MAY_BE + 3 : NO_BAR;
        }

        static int verdictOfBar(int bar) {
            if (bar == NO_BAR) {
                return GOOD;
            }
            return bar > MAY_BE ? PERHAPS : BAD;
        }

        private int noticeBar(Contract contract) {
            if (contract.degree < 2) {
                return NO_BAR;
            }
            if (contract.noticeDay == NO_DAY) {
                return BAR_SURE;
            }
            return lateness(contract.noticeDay, contract.beganFirst, contract.beganLast, LAW_NOTICE);
        }

        /** Whether a day is later than the law's days from a span; no bar without a span. */
        private int lateness(int day, int first, int last, int what) {
            if (first == NO_DAY || day <= first + laws[what]) {
                return NO_BAR;
            }
            return day > last + laws[what] ? BAR_SURE : BAR_PERHAPS;
        }

        private boolean isSuitLost(Claim row, int day) {
            int lastSuitDay = row.filedDay + laws[LAW_SUIT];
            boolean suedInTime = row.suedDay != NO_DAY && row.suedDay <= lastSuitDay;
            return day > lastSuitDay && !suedInTime;
        }

        /** Tells verdicts and worths of all claims on a day; those filed later are worth 0. */
        void weigh(int day) {
            for (int i = 0; i < book.count; i++) {
                boundsLeft[i] = book.boundOf(book.contracts[i], laws[LAW_CAPPED] == 1);
            }
            for (int i = 0; i < count; i++) {
                Claim row = claims[i];
                boolean isThere = row.filedDay <= day;
                verdicts[i] = isThere ? verdictOfBar(barOn(i, day)) : BAD;
                worths[i] = 0;
                if (verdicts[i] != BAD) {
                    worths[i] = Math.min(row.amount, boundsLeft[row.contract]);
                    boundsLeft[row.contract] -= worths[i];
                }
            }
        }

        int worthBelow(int contract, int day) {
            weigh(day);
            int all = 0;
            for (int i = 0; i < count; i++) {
                if (book.contracts[claims[i].contract].isBelow(contract)) {
                    all += worths[i];
                }
            }
            return all;
        }

        int howManyGood(int day) {
            weigh(day);
            int good = 0;
            for (int i = 0; i < count; i++) {
                if (verdicts[i] == GOOD) {
                    good++;
                }
            }
            return good;
        }

        int rankDay(int claim, int which) {
            Claim row = claims[claim];
            if (laws[LAW_RELATES] == TO_OWN_BEGINNING) {
                Contract contract = book.contracts[row.contract];
                return which == EARLIEST ? contract.beganFirst : contract.beganLast;
            }
            return laws[LAW_RELATES] == TO_FIRST_SPADE ? book.firstSpade(which) : row.filedDay;
        }
    }

    /** The loans on the land, and how the coin of a sale is shared. */
    private static final class Land {
        /** A slot for each loan, then one for each claim: the order in which odd coin goes. */
        private static final int SLOTS = MOST_LOANS + MOST_CLAIMS;
        private static final int NO_RANK = -1;

        final Docket docket;
        final int[] loanSums;
        final int[] loanDays;
        int loans;
        private final int[] ranks;
        private final int[] worths;
        private final int[] shares;
        /** What the sale has left; after all ranks, what THE OWNER has. */
        int left;

        Land(Docket docket) {
            this.docket = docket;
            loanSums = new int[MOST_LOANS];
            loanDays = new int[MOST_LOANS];
            ranks = new int[SLOTS];
            worths = new int[SLOTS];
            shares = new int[SLOTS];
        }

        int record(int sum, int day) {
            loanSums[loans] = sum;
            loanDays[loans] = day;
            loans++;
            return loans - 1;
        }

        int loanShare(int loan) {
            return shares[loan];
        }

        int claimShare(int claim) {
            return shares[MOST_LOANS + claim];
        }

        void sell(int coin, int which, int day) {
            left = coin;
            enterLoans();
            enterClaims(which, day);
            int rank = rankAfter(NO_RANK);
            for (int round = 0; round < SLOTS && rank != NO_RANK; round++) {
                payRank(rank);
                rank = rankAfter(rank);
            }
        }

        private void enterLoans() {
            for (int i = 0; i < MOST_LOANS; i++) {
                ranks[i] = i < loans ? loanDays[i] : NO_RANK;
                worths[i] = loanSums[i];
                shares[i] = 0;
            }
        }

        private void enterClaims(int which, int day) {
            docket.weigh(day);
            int leastVerdict = which == EARLIEST ? PERHAPS : GOOD;
            for (int i = 0; i < MOST_CLAIMS; i++) {
                int slot = MOST_LOANS + i;
                boolean takesPart = docket.has(i) && docket.claims[i].bonded == 0
                        && docket.verdicts[i] >= leastVerdict;
                ranks[slot] = takesPart ? docket.rankDay(i, which) : NO_RANK;
                worths[slot] = docket.worths[i];
                shares[slot] = 0;
            }
        }

        private int rankAfter(int rank) {
            int next = NO_RANK;
            for (int i = 0; i < SLOTS; i++) {
                if (ranks[i] > rank && (next == NO_RANK || ranks[i] < next)) {
                    next = ranks[i];
                }
            }
            return next;
        }

        private void payRank(int rank) {
            int all = 0;
            for (int i = 0; i < SLOTS; i++) {
                if (ranks[i] == rank) {
                    all += worths[i];
                }
            }
            if (all > left && all > 0) {
                shareLeft(rank, all);
            } else {
                payWhole(rank);
            }
        }

        private void payWhole(int rank) {
            for (int i = 0; i < SLOTS; i++) {
                if (ranks[i] == rank) {
                    shares[i] = worths[i];
                    left -= worths[i];
                }
            }
        }

        /** all is above 0 and above what is left. */
        private void shareLeft(int rank, int all) {
            long toShare = left;
            for (int i = 0; i < SLOTS; i++) {
                if (ranks[i] == rank) {
                    shares[i] = (int) (toShare * worths[i] / all);
                    left -= shares[i];
                }
            }
            for (int i = 0; i < SLOTS && left > 0; i++) {
                if (ranks[i] == rank) {
                    shares[i]++;
                    left--;
                }
            }
        }
    }

    /** The accounts of all builders: each IN with what is left of it, by the three rules. */
    private static final class Accounts {
        final int[] holders;
        final int[] purposes;
        /** By rules, then by INS. */
        final int[][] left;
        int ins;
        int outs;

        Accounts() {
            holders = new int[MOST_INS];
            purposes = new int[MOST_INS];
            left = new int[RULES][MOST_INS];
        }

        int receive(int party, int purpose, int coin) {
            holders[ins] = party;
            purposes[ins] = purpose;
            for (int rule = 0; rule < RULES; rule++) {
                left[rule][ins] = coin;
            }
            ins++;
            return ins - 1;
        }

        /** The rules differ in which INS are left, never in how much is left in all. */
        int balance(int party) {
            int all = 0;
            for (int i = 0; i < ins; i++) {
                if (holders[i] == party) {
                    all += left[FIRST_GOES_FIRST][i];
                }
            }
            return all;
        }

        int leftFor(int party, int purpose, int rule) {
            int all = 0;
            for (int i = 0; i < ins; i++) {
                if (holders[i] == party && purposes[i] == purpose) {
                    all += left[rule][i];
                }
            }
            return all;
        }

        void spend(int party, int coin) {
            outs++;
            spendForward(FIRST_GOES_FIRST, party, coin);
            int still = coin;
            for (int i = ins - 1; i >= 0; i--) {
                still -= take(LAST_GOES_FIRST, i, party, still);
            }
            still = coin;
            for (int i = 0; i < ins; i++) {
                if (purposes[i] == OWN_COIN) {
                    still -= take(OWN_GOES_FIRST, i, party, still);
                }
            }
            // If coin still has to go, no OWN coin is left, so this takes the other alone.
            spendForward(OWN_GOES_FIRST, party, still);
        }

        private void spendForward(int rule, int party, int coin) {
            int still = coin;
            for (int i = 0; i < ins; i++) {
                still -= take(rule, i, party, still);
            }
        }

        /** Takes up to an amount from an IN, if it is the party's: how much it took. */
        private int take(int rule, int i, int party, int most) {
            if (holders[i] != party) {
                return 0;
            }
            int taken = Math.min(left[rule][i], most);
            left[rule][i] -= taken;
            return taken;
        }
    }
}
