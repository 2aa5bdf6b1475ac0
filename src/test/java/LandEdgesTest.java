/** Promises 21 to 24: a test for each sentence that names an edge of loans, sales and draws. */
final class LandEdgesTest {
    private static final Run NEW = Run.of("");
    /** 1 PARTY, 2 LENDER, 3 BUILDER, 4 SUPPLIER. */
    private static final Run KINDS = Run.of("party 0; party 1; party 2; party 3");
    private static final Run SIX_LOANS = KINDS.each(1, 6, "loan 2 100");
    /** A loan of 100 on day 0; on day 1 a loan of 30, and a claim of 50 that began then. */
    private static final Run TWO_RANKS = Run.of("party 1; party 2; contract 0 2 1000; law 4 0;"
            + " loan 1 100; day 1; began 0 1 1; file 0 50; loan 1 30");
    private static final Run BELOW = Run.chain(3).each(0, 2, "began # 0 0; notice #");
    private static final int[] NONE = {};

    public static void main(String[] args) {
        loan();
        loanFindings();
        saleFindings();
        saleByRanks();
        saleOfOneRank();
        saleOddCoin();
        saleWhoTakesPart();
        saleByEarliestAndLatest();
        twice();
        sign();
        signSets();
        Due.end();
    }

    // ---- promise 21

    private static void loan() {
        KINDS.range("loan 2 ?", 1, 1000000);
        NEW.each(1, 11, "party 1").answers("loan 1 1", 0);
        NEW.each(1, 11, "party 1").answers("loan 11 1", 0);
        for (String none : new String[] {"-1", "12", "least", "most"}) {
            NEW.each(1, 11, "party 1").refuses("loan " + none + " 1", Due.BEYOND);
        }
        lendersAloneLend();
        loansAreSixAtMost();
    }

    private static void lendersAloneLend() {
        KINDS.answers("loan 2 1", 0);
        for (int other : new int[] {0, 1, 3, 4}) {
            KINDS.refuses("loan " + other + " 1", Due.KIND);
        }
    }

    private static void loansAreSixAtMost() {
        KINDS.each(1, 5, "loan 2 1").answers("loan 2 1", 5);
        SIX_LOANS.refuses("loan 2 1", Due.FULL);
        SIX_LOANS.refuses("loan 2 1000000", Due.FULL);
        SIX_LOANS.then("party 1").refuses("loan 5 1", Due.FULL);
        SIX_LOANS.then("day 5000").refuses("loan 2 1", Due.FULL);
        SIX_LOANS.answers("count 3", 6);
    }

    private static void loanFindings() {
        for (int other : new int[] {0, 1, 3, 4}) {
            KINDS.refuses("loan " + other + " 0", Due.BEYOND);
            KINDS.refuses("loan " + other + " 1000001", Due.BEYOND);
            SIX_LOANS.refuses("loan " + other + " 1", Due.KIND);
        }
        SIX_LOANS.refuses("loan 2 0", Due.BEYOND);
        SIX_LOANS.refuses("loan 2 1000001", Due.BEYOND);
        SIX_LOANS.refuses("loan 5 1", Due.BEYOND);
        SIX_LOANS.refuses("loan -1 1", Due.BEYOND);
    }

    // ---- promise 22

    private static void saleFindings() {
        for (int which = 0; which <= 1; which++) {
            for (int whose = 0; whose <= 2; whose++) {
                TWO_RANKS.range("sale ? " + which + " " + whose + " 0", 0, 10000000);
            }
        }
        for (int whose = 0; whose <= 2; whose++) {
            TWO_RANKS.range("sale 5 ? " + whose + " 0", 0, 1);
        }
        TWO_RANKS.range("sale 5 0 ? 0", 0, 2);
        TWO_RANKS.range("sale 5 0 0 ?", 0, 1);
        TWO_RANKS.range("sale 5 0 1 ?", 0, 0);
        TWO_RANKS.range("sale 5 0 2 ?", 0, 0);
        SIX_LOANS.range("sale 5 1 0 ?", 0, 5);
        Run.row(1).then("began 0 0 0").each(0, 15, "file 0 1").range("sale 5 1 1 ?", 0, 15);
        TWO_RANKS.refuses("sale least least least least", Due.BEYOND);
        TWO_RANKS.refuses("sale most most most most", Due.BEYOND);
    }

    /** What all have of a sale; THE OWNER has the rest. */
    private static void shares(Run run, int coin, int which, int[] loans, int[] claims) {
        int rest = coin;
        String sale = "sale " + coin + " " + which;
        for (int i = 0; i < loans.length; i++) {
            run.answers(sale + " 0 " + i, loans[i]);
            rest -= loans[i];
        }
        for (int i = 0; i < claims.length; i++) {
            run.answers(sale + " 1 " + i, claims[i]);
            rest -= claims[i];
        }
        run.answers(sale + " 2 0", rest);
    }

    private static int[] row(int... all) {
        return all;
    }

    private static void saleByRanks() {
        shares(TWO_RANKS, 0, 0, row(0, 0), row(0));
        shares(TWO_RANKS, 1, 0, row(1, 0), row(0));
        shares(TWO_RANKS, 99, 0, row(99, 0), row(0));
        shares(TWO_RANKS, 100, 0, row(100, 0), row(0));
        shares(TWO_RANKS, 101, 0, row(100, 1), row(0));
        shares(TWO_RANKS, 102, 0, row(100, 1), row(1));
        shares(TWO_RANKS, 179, 0, row(100, 30), row(49));
        shares(TWO_RANKS, 180, 0, row(100, 30), row(50));
        shares(TWO_RANKS, 181, 0, row(100, 30), row(50));
        shares(TWO_RANKS, 10000000, 0, row(100, 30), row(50));
        ranksOfOneDayAndOfTheNext();
        laterRanksHaveNothing();
        asManyRanksAsThereMayBe();
    }

    private static void ranksOfOneDayAndOfTheNext() {
        Run onTwo = Run.of("party 1; party 2; contract 0 2 1000; law 4 0; day 2; loan 1 50; day 3");
        shares(onTwo.then("began 0 1 1; file 0 50"), 50, 0, row(0), row(50));
        shares(onTwo.then("began 0 2 2; file 0 50"), 50, 0, row(25), row(25));
        shares(onTwo.then("began 0 3 3; file 0 50"), 50, 0, row(50), row(0));
        Run onTheLastDay = Run.of("party 1; day 5000; loan 1 50; loan 1 50");
        shares(onTheLastDay, 99, 0, row(50, 49), NONE);
    }

    private static void laterRanksHaveNothing() {
        Run three = Run.of("party 1; loan 1 10; loan 1 10; day 1; loan 1 1; day 2; loan 1 1");
        shares(three, 19, 0, row(10, 9, 0, 0), NONE);
        shares(three, 20, 0, row(10, 10, 0, 0), NONE);
        shares(three, 21, 0, row(10, 10, 1, 0), NONE);
        shares(three, 22, 0, row(10, 10, 1, 1), NONE);
    }

    /** Claims by the days on which they were filed, 1 .. 16; loans on days 17 .. 22. */
    private static void asManyRanksAsThereMayBe() {
        Run all = Run.of("party 1; party 2; contract 0 2 1000; began 0 0 0; law 4 2")
                .each(1, 16, "day #; file 0 3").each(17, 22, "day #; loan 1 3");
        all.answers("sale 66 0 0 5", 3);
        all.answers("sale 65 0 0 5", 2);
        all.answers("sale 63 1 0 5", 0);
        all.answers("sale 63 1 0 4", 3);
        all.answers("sale 48 0 1 15", 3);
        all.answers("sale 47 0 1 15", 2);
        all.answers("sale 67 0 2 0", 1);
    }

    private static void saleOfOneRank() {
        Run six = Run.of("party 1").each(1, 6, "loan 1 1000000");
        shares(six, 6000000, 0, row(1000000, 1000000, 1000000, 1000000, 1000000, 1000000), NONE);
        shares(six, 5999999, 0, row(1000000, 1000000, 1000000, 1000000, 1000000, 999999), NONE);
        shares(six, 10000000, 1, row(1000000, 1000000, 1000000, 1000000, 1000000, 1000000), NONE);
        shares(Run.of("party 1; loan 1 1"), 0, 0, row(0), NONE);
        shares(Run.of("party 1; loan 1 1"), 1, 0, row(1), NONE);
        shares(Run.of("party 1; loan 1 1000000; loan 1 1"), 1, 0, row(1, 0), NONE);
        shares(Run.of("party 1; loan 1 1; loan 1 1000000"), 1, 0, row(1, 0), NONE);
        shares(Run.of("party 1; loan 1 1; loan 1 1000000"), 1000000, 0, row(1, 999999), NONE);
        theMostThatMayBeOwed();
    }

    /** Ten contracts of a million each with a claim, and six loans: 16 millions for 10. */
    private static void theMostThatMayBeOwed() {
        Run most = Run.of("party 1").each(2, 11, "party 2").each(2, 11, "contract 0 # 100000");
        for (int i = 0; i < 9; i++) {
            most = most.each(0, 9, "extra # 100000");
        }
        most = most.each(0, 9, "began # 0 0; file # 1000000").each(1, 6, "loan 1 1000000");
        most.answers("sale 10000000 0 0 0", 625000);
        most.answers("sale 10000000 0 1 9", 625000);
        most.answers("sale 10000000 0 2 0", 0);
        most.answers("sale 9999999 0 0 0", 625000);
        most.answers("sale 9999999 0 1 9", 624999);
        most.answers("sale 9999999 1 1 8", 625000);
    }

    private static void saleOddCoin() {
        Run five = Run.of("party 1").each(2, 4, "party 2").each(2, 4, "contract 0 # 9")
                .each(0, 2, "began # 0 0").then("file 2 7; file 1 7; file 0 7; loan 1 7; loan 1 7");
        shares(five, 1, 0, row(1, 0), row(0, 0, 0));
        shares(five, 4, 0, row(1, 1), row(1, 1, 0));
        shares(five, 5, 0, row(1, 1), row(1, 1, 1));
        shares(five, 6, 0, row(2, 1), row(1, 1, 1));
        shares(five, 34, 0, row(7, 7), row(7, 7, 6));
        shares(five, 35, 0, row(7, 7), row(7, 7, 7));
        theCutIsByWorthNotByAmount();
        asManyOfOneRankAsThereMayBe();
    }

    /** Worths are 9 (of 1000 that are claimed) and 1. */
    private static void theCutIsByWorthNotByAmount() {
        Run two = Run.row(2).each(0, 1, "began # 0 0; pay # 991").then("file 0 1000; file 1 1");
        shares(two, 9, 0, NONE, row(9, 0));
        shares(two, 8, 0, NONE, row(8, 0));
        shares(two, 10, 0, NONE, row(9, 1));
    }

    private static void asManyOfOneRankAsThereMayBe() {
        Run all = Run.of("party 1; party 2; contract 0 2 1000; began 0 0 0")
                .each(1, 16, "file 0 1").each(1, 6, "loan 1 1");
        all.answers("sale 21 0 1 14", 1);
        all.answers("sale 21 0 1 15", 0);
        all.answers("sale 22 0 1 15", 1);
        all.answers("sale 6 0 0 5", 1);
        all.answers("sale 6 0 1 0", 0);
        all.answers("sale 7 0 1 0", 1);
    }

    private static void saleWhoTakesPart() {
        Run two = Run.row(2).each(0, 1, "began # 0 0; file # 100");
        for (int which = 0; which <= 1; which++) {
            shares(two, 100, which, NONE, row(50, 50));
            shares(two.then("bond 0 1"), 100, which, NONE, row(0, 100));
            shares(two.then("bond 0 1; bond 0 0"), 100, which, NONE, row(50, 50));
            shares(two.then("pay 0 1000"), 100, which, NONE, row(0, 100));
            shares(two.then("bond 0 1; bond 1 1"), 100, which, NONE, row(0, 0));
            shares(two.then("sue 1; day 180"), 100, which, NONE, row(50, 50));
            shares(two.then("sue 1; day 181"), 100, which, NONE, row(0, 100));
        }
        aBondedClaimKeepsItsPartOfTheBound();
    }

    private static void aBondedClaimKeepsItsPartOfTheBound() {
        Run three = Run.row(1).then("began 0 0 0; file 0 700; file 0 700");
        shares(three, 5000, 0, NONE, row(700, 300));
        shares(three.then("bond 0 1"), 5000, 0, NONE, row(0, 300));
    }

    private static void saleByEarliestAndLatest() {
        Run spanned = Run.of("party 1; party 2; contract 0 2 1000; law 4 0; day 20; loan 1 50;"
                + " day 40; began 0 19 20; file 0 50");
        shares(spanned, 50, 0, row(0), row(50));
        shares(spanned, 50, 1, row(25), row(25));
        shares(spanned.then("began 0 19 21"), 50, 1, row(50), row(0));
        shares(spanned.then("began 0 19 19"), 50, 1, row(0), row(50));
        shares(spanned.then("began 0 20 40"), 50, 0, row(25), row(25));
        shares(spanned.then("began 0 21 40"), 50, 0, row(50), row(0));
        oneThatMayBeBarredHasNothingByTheLatest();
    }

    private static void oneThatMayBeBarredHasNothingByTheLatest() {
        Run ended = Run.row(1).then("began 0 0 0; day 100; file 0 50");
        shares(ended.then("ended 0 10 10"), 60, 1, NONE, row(50));
        shares(ended.then("ended 0 9 10"), 60, 0, NONE, row(50));
        shares(ended.then("ended 0 9 10"), 60, 1, NONE, row(0));
        shares(ended.then("ended 0 9 9"), 60, 0, NONE, row(0));
    }

    // ---- promise 23

    private static void twice() {
        Run.row(10).range("twice ?", 0, 9);
        twiceIsOfDegreeOne();
        twiceIsZeroAtLeast();
        twiceIsOfThoseBelowAlone();
        twiceIsOnTheDay();
    }

    private static void twiceIsOfDegreeOne() {
        Run.chain(10).answers("twice 0", 0);
        for (int i = 1; i < 10; i++) {
            Run.chain(10).refuses("twice " + i, Due.STATE);
        }
        Run.chain(10).refuses("twice 10", Due.BEYOND);
    }

    private static void twiceIsZeroAtLeast() {
        BELOW.answers("twice 0", 0);
        BELOW.then("file 1 600").answers("twice 0", 0);
        BELOW.then("file 1 600; pay 0 400").answers("twice 0", 0);
        BELOW.then("file 1 600; pay 0 401").answers("twice 0", 1);
        BELOW.then("file 1 600; pay 0 1000").answers("twice 0", 600);
        BELOW.then("file 1 5000; pay 0 1000").answers("twice 0", 1000);
        BELOW.then("pay 0 1000").answers("twice 0", 0);
        BELOW.then("file 1 600; pay 0 401; extra 0 1").answers("twice 0", 0);
        BELOW.then("file 1 600; waive 0 1000 0").answers("twice 0", 0);
    }

    private static void twiceIsOfThoseBelowAlone() {
        BELOW.then("file 1 10; file 2 200; pay 0 1000").answers("twice 0", 210);
        BELOW.then("file 2 200; pay 0 1000").answers("twice 0", 200);
        BELOW.then("file 0 10; pay 0 999").answers("twice 0", 0);
        Run other = BELOW.then("party 2; party 2; contract 0 4 1; contract 4 5 90; began 4 0 0;"
                + " notice 4; file 4 80; file 1 6; pay 0 1000");
        other.answers("twice 0", 6);
        other.answers("twice 3", 79);
        other.refuses("twice 4", Due.STATE);
        BELOW.then("file 1 10; file 1 2000; pay 0 1000").answers("twice 0", 1000);
        BELOW.then("file 1 10; bond 0 1; pay 0 1000").answers("twice 0", 10);
        BELOW.then("file 1 10; pay 0 1000; law 5 1").answers("twice 0", 0);
    }

    private static void twiceIsOnTheDay() {
        BELOW.then("file 1 10; pay 0 1000; day 180").answers("twice 0", 10);
        BELOW.then("file 1 10; pay 0 1000; day 181").answers("twice 0", 0);
        BELOW.then("file 1 10; pay 0 1000; sue 0; day 181").answers("twice 0", 10);
    }

    // ---- promise 24

    private static void sign() {
        Run.chain(2).range("sign 0 ? 0", 0, 1000000);
        Run.chain(2).range("sign 0 ? 1", 0, 1000000);
        Run.chain(2).range("sign 0 0 ?", 0, 1);
        Run.row(10).range("sign ? 0 0", 0, 9);
        signIsOfDegreeOne();
        signTellsBeyondAheadOfState();
    }

    private static void signIsOfDegreeOne() {
        for (int i = 1; i < 10; i++) {
            Run.chain(10).refuses("sign " + i + " 0 0", Due.STATE);
        }
        Run.chain(10).answers("sign 0 0 0", 2 | 4);
    }

    private static void signTellsBeyondAheadOfState() {
        Run two = Run.chain(2);
        two.refuses("sign 1 -1 0", Due.BEYOND);
        two.refuses("sign 1 1000001 0", Due.BEYOND);
        two.refuses("sign 1 0 2", Due.BEYOND);
        two.refuses("sign 1 0 -1", Due.BEYOND);
        two.refuses("sign 2 0 0", Due.BEYOND);
    }

    /** The set as bits, and how many they are. */
    private static void signers(Run run, int amount, int due) {
        run.answers("sign 0 " + amount + " 0", due);
        run.answers("sign 0 " + amount + " 1", Integer.bitCount(due));
    }

    private static void signSets() {
        noneNeedSignForNoneBelow();
        theAmountMayStayOpen();
        degreesUpToChainCount();
        ofSeveralTheLeastAsBits();
        allNineBelow();
        noneSignsWhoHasNothingOpen();
    }

    private static void noneNeedSignForNoneBelow() {
        signers(Run.row(10), 0, 0);
        signers(Run.chain(2).then("pay 1 1000"), 0, 0);
    }

    private static void theAmountMayStayOpen() {
        Run three = Run.chain(3);
        signers(three, 0, 6);
        signers(three, 999, 6);
        signers(three, 1000, 2);
        signers(three, 1999, 2);
        signers(three, 2000, 0);
        signers(three.then("pay 1 1"), 998, 6);
        signers(three.then("pay 1 1"), 999, 4);
        signers(three.then("waive 2 1 0"), 999, 2);
        signers(three, 1000000, 0);
    }

    private static void degreesUpToChainCount() {
        Run ten = Run.chain(10);
        for (int chain = 1; chain <= 9; chain++) {
            signers(ten.then("law 3 " + chain), 0, (1 << chain) - 2);
        }
    }

    private static void ofSeveralTheLeastAsBits() {
        Run four = Run.of("").each(1, 5, "party 2").then("contract 0 1 1; contract 1 2 10;"
                + " contract 1 3 20; contract 1 4 20; contract 1 5 30");
        signers(four, 80, 0);
        signers(four, 79, 2);
        signers(four, 70, 2);
        signers(four, 69, 4);
        signers(four, 60, 4);
        signers(four, 59, 16);
        signers(four, 50, 16);
        signers(four, 49, 4 | 8);
        signers(four, 40, 4 | 8);
        signers(four, 39, 4 | 16);
        signers(four, 30, 4 | 16);
        signers(four, 29, 2 | 4 | 16);
        signers(four, 10, 4 | 8 | 16);
        signers(four, 9, 2 | 4 | 8 | 16);
    }

    private static void allNineBelow() {
        Run nine = Run.of("").each(1, 10, "party 2").then("contract 0 1 1")
                .each(2, 10, "contract 1 # 100000");
        signers(nine, 0, 1022);
        signers(nine, 99999, 1022);
        signers(nine, 100000, 510);
        signers(nine, 899999, 2);
        signers(nine, 900000, 0);
    }

    private static void noneSignsWhoHasNothingOpen() {
        Run four = Run.chain(4).then("law 3 4");
        signers(four, 0, 14);
        signers(four.then("pay 2 1000"), 0, 10);
        signers(four.then("waive 2 1000000 0"), 0, 10);
        signers(four.then("waive 2 1000 1"), 0, 14);
        signers(four.then("pay 0 1000"), 0, 14);
    }
}
