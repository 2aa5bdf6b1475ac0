/** Promises 25 to 28: a test for each sentence that names an edge of accounts. */
final class AccountEdgesTest {
    /** Contract 0 by THE OWNER to 1, contract 1 by 1 to 2; 3 PARTY, 4 LENDER, 5 SUPPLIER. */
    private static final Run TWO = Run.chain(2).then("party 0; party 1; party 3");
    private static final Run FOUR_INS = TWO.then("in 1 0 10; in 1 -1 20; in 1 1 30; in 1 -1 40");
    private static final Run FORTY_INS = TWO.each(1, 20, "in 1 1 2; in 2 1 3");
    private static final Run FORTY_OUTS = TWO.then("in 1 -1 30; in 2 -1 30")
            .each(1, 20, "out 1 1; out 2 1");

    public static void main(String[] args) {
        in();
        inFindings();
        out();
        outFindings();
        trace();
        traceByRules();
        held();
        Due.end();
    }

    // ---- promise 25

    private static void in() {
        TWO.range("in 1 0 ?", 1, 100000);
        TWO.range("in 1 -1 ?", 1, 100000);
        TWO.range("in 1 ? 5", -1, 1);
        Run.of("").each(1, 11, "party 2").then("contract 0 1 1").each(2, 10, "contract 1 # 1")
                .range("in 1 ? 5", -1, 9);
        inWantsAPartyThatIsThere();
        inIsForBuildersAndSuppliers();
        inIsForAContractWhosePayeeOrPayerItIs();
        insAreFortyOfAllBuilders();
    }

    private static void inWantsAPartyThatIsThere() {
        Run twelve = Run.of("").each(1, 11, "party 2");
        twelve.answers("in 1 -1 1", 0);
        twelve.answers("in 11 -1 1", 0);
        for (String none : new String[] {"-1", "12", "least", "most"}) {
            twelve.refuses("in " + none + " -1 1", Due.BEYOND);
        }
    }

    private static void inIsForBuildersAndSuppliers() {
        for (int other : new int[] {0, 3, 4}) {
            TWO.refuses("in " + other + " -1 1", Due.KIND);
        }
        TWO.answers("in 1 -1 1", 0);
        TWO.answers("in 5 -1 1", 0);
    }

    private static void inIsForAContractWhosePayeeOrPayerItIs() {
        TWO.answers("in 1 0 1", 0);
        TWO.answers("in 1 1 1", 0);
        TWO.answers("in 2 1 1", 0);
        TWO.answers("in 2 -1 1", 0);
        TWO.refuses("in 2 0 1", Due.STATE);
        TWO.refuses("in 5 0 1", Due.STATE);
        TWO.refuses("in 5 1 1", Due.STATE);
        TWO.then("contract 2 5 9").answers("in 5 2 1", 0);
        TWO.then("contract 2 5 9").refuses("in 1 2 1", Due.STATE);
    }

    private static void insAreFortyOfAllBuilders() {
        TWO.each(1, 39, "in 1 0 1").answers("in 2 1 1", 39);
        TWO.each(1, 40, "in 1 0 1").refuses("in 2 1 1", Due.FULL);
        FORTY_INS.refuses("in 1 0 1", Due.FULL);
        FORTY_INS.refuses("in 5 -1 1", Due.FULL);
        FORTY_INS.answers("count 5", 40);
        // What has gone OUT makes no room.
        FORTY_INS.then("out 1 40").refuses("in 1 0 1", Due.FULL);
    }

    private static void inFindings() {
        inTellsBeyondFirst();
        inTellsKindAheadOfStateAndFull();
        inTellsStateAheadOfFull();
    }

    private static void inTellsBeyondFirst() {
        TWO.refuses("in 0 0 0", Due.BEYOND);
        TWO.refuses("in 4 -1 100001", Due.BEYOND);
        TWO.refuses("in 4 2 1", Due.BEYOND);
        TWO.refuses("in 4 -2 1", Due.BEYOND);
        TWO.refuses("in 2 0 0", Due.BEYOND);
        TWO.refuses("in 2 0 100001", Due.BEYOND);
        FORTY_INS.refuses("in 1 0 0", Due.BEYOND);
        FORTY_INS.refuses("in 1 2 1", Due.BEYOND);
        FORTY_INS.refuses("in 6 -1 1", Due.BEYOND);
    }

    private static void inTellsKindAheadOfStateAndFull() {
        TWO.refuses("in 4 0 1", Due.KIND);
        TWO.refuses("in 3 1 1", Due.KIND);
        TWO.refuses("in 0 0 1", Due.KIND);
        TWO.refuses("in 0 1 1", Due.KIND);
        FORTY_INS.refuses("in 4 -1 1", Due.KIND);
        FORTY_INS.refuses("in 4 0 1", Due.KIND);
    }

    private static void inTellsStateAheadOfFull() {
        FORTY_INS.refuses("in 2 0 1", Due.STATE);
        FORTY_INS.refuses("in 5 1 1", Due.STATE);
    }

    // ---- promise 26

    private static void out() {
        TWO.each(1, 10, "in 1 -1 100000").range("out 1 ?", 1, 1000000);
        outIsNeverMoreThanThereIs();
        outIsForBuildersAndSuppliers();
        outsAreFortyOfAll();
    }

    private static void outIsNeverMoreThanThereIs() {
        TWO.refuses("out 1 1", Due.STATE);
        TWO.then("in 1 0 9").answers("out 1 8", 1);
        TWO.then("in 1 0 9").answers("out 1 9", 0);
        TWO.then("in 1 0 9").refuses("out 1 10", Due.STATE);
        TWO.then("in 1 0 9; in 1 -1 5").answers("out 1 14", 0);
        TWO.then("in 1 0 9; in 1 -1 5").refuses("out 1 15", Due.STATE);
        TWO.then("in 1 0 9; out 1 9").refuses("out 1 1", Due.STATE);
        TWO.then("in 1 0 9; out 1 4").refuses("out 1 6", Due.STATE);
        TWO.then("in 1 0 9; out 1 4; in 1 0 1").answers("out 1 6", 0);
        TWO.then("in 1 1 9").refuses("out 2 1", Due.STATE);
        TWO.each(1, 40, "in 1 0 100000").answers("out 1 1000000", 3000000);
    }

    private static void outIsForBuildersAndSuppliers() {
        for (int other : new int[] {0, 3, 4}) {
            TWO.refuses("out " + other + " 1", Due.KIND);
        }
        TWO.then("in 5 -1 3").answers("out 5 3", 0);
        Run twelve = Run.of("").each(1, 11, "party 3").then("in 11 -1 3");
        twelve.answers("out 11 1", 2);
        for (String none : new String[] {"-1", "12", "least", "most"}) {
            twelve.refuses("out " + none + " 1", Due.BEYOND);
        }
    }

    private static void outsAreFortyOfAll() {
        TWO.then("in 1 -1 99; in 2 -1 9").each(1, 39, "out 1 1").answers("out 2 1", 8);
        TWO.then("in 1 -1 99; in 2 -1 9").each(1, 40, "out 1 1").refuses("out 2 1", Due.FULL);
        FORTY_OUTS.refuses("out 1 1", Due.FULL);
        FORTY_OUTS.refuses("out 1 10", Due.FULL);
        FORTY_OUTS.then("in 5 -1 3").refuses("out 5 1", Due.FULL);
        FORTY_OUTS.answers("count 6", 40);
    }

    private static void outFindings() {
        TWO.refuses("out 4 0", Due.BEYOND);
        TWO.refuses("out 4 1000001", Due.BEYOND);
        TWO.refuses("out 1 0", Due.BEYOND);
        TWO.refuses("out 1 1000001", Due.BEYOND);
        FORTY_OUTS.refuses("out 1 0", Due.BEYOND);
        FORTY_OUTS.refuses("out 1 1000001", Due.BEYOND);
        FORTY_OUTS.refuses("out 6 1", Due.BEYOND);
        // A lender has no coin either, so KIND is told ahead of STATE.
        TWO.refuses("out 4 1", Due.KIND);
        FORTY_OUTS.refuses("out 4 1", Due.KIND);
        FORTY_OUTS.refuses("out 0 1", Due.KIND);
        FORTY_OUTS.refuses("out 1 11", Due.STATE);
        FORTY_OUTS.refuses("out 5 1", Due.STATE);
    }

    // ---- promise 27

    private static void trace() {
        FORTY_INS.range("trace ? 0", 0, 39);
        TWO.then("in 1 0 5").range("trace ? 1", 0, 0);
        TWO.then("in 1 0 5").range("trace 0 ?", 0, 2);
        TWO.refuses("trace 0 0", Due.BEYOND);
        TWO.refuses("trace 0 3", Due.BEYOND);
        for (int rule = 0; rule <= 2; rule++) {
            TWO.then("in 1 0 1").answers("trace 0 " + rule, 1);
            TWO.then("in 1 0 100000").answers("trace 0 " + rule, 100000);
            TWO.then("in 1 0 9; out 1 9").answers("trace 0 " + rule, 0);
        }
    }

    private static void left(Run run, int rule, int... due) {
        for (int i = 0; i < due.length; i++) {
            run.answers("trace " + i + " " + rule, due[i]);
        }
    }

    private static void traceByRules() {
        whatCameFirstGoesFirst();
        whatCameLastGoesFirst();
        ownCoinGoesFirst();
        outsAreOfTheirOwnAccountAlone();
        anInBehindAnOutIsNotTakenByIt();
        fortyInsAndFortyOuts();
    }

    private static void whatCameFirstGoesFirst() {
        left(FOUR_INS.then("out 1 9"), 0, 1, 20, 30, 40);
        left(FOUR_INS.then("out 1 10"), 0, 0, 20, 30, 40);
        left(FOUR_INS.then("out 1 11"), 0, 0, 19, 30, 40);
        left(FOUR_INS.then("out 1 60"), 0, 0, 0, 0, 40);
        left(FOUR_INS.then("out 1 99"), 0, 0, 0, 0, 1);
        left(FOUR_INS.then("out 1 100"), 0, 0, 0, 0, 0);
    }

    private static void whatCameLastGoesFirst() {
        left(FOUR_INS.then("out 1 39"), 1, 10, 20, 30, 1);
        left(FOUR_INS.then("out 1 40"), 1, 10, 20, 30, 0);
        left(FOUR_INS.then("out 1 41"), 1, 10, 20, 29, 0);
        left(FOUR_INS.then("out 1 90"), 1, 10, 0, 0, 0);
        left(FOUR_INS.then("out 1 99"), 1, 1, 0, 0, 0);
        left(FOUR_INS.then("out 1 100"), 1, 0, 0, 0, 0);
    }

    private static void ownCoinGoesFirst() {
        left(FOUR_INS.then("out 1 19"), 2, 10, 1, 30, 40);
        left(FOUR_INS.then("out 1 20"), 2, 10, 0, 30, 40);
        left(FOUR_INS.then("out 1 21"), 2, 10, 0, 30, 39);
        left(FOUR_INS.then("out 1 60"), 2, 10, 0, 30, 0);
        left(FOUR_INS.then("out 1 61"), 2, 9, 0, 30, 0);
        left(FOUR_INS.then("out 1 71"), 2, 0, 0, 29, 0);
        left(FOUR_INS.then("out 1 100"), 2, 0, 0, 0, 0);
        left(TWO.then("in 1 0 10; in 1 1 10; out 1 11"), 2, 0, 9);
    }

    private static void outsAreOfTheirOwnAccountAlone() {
        Run apart = TWO.then("in 2 -1 5; in 1 -1 5; in 2 1 5; out 1 5");
        for (int rule = 0; rule <= 2; rule++) {
            left(apart, rule, 5, 0, 5);
        }
    }

    private static void anInBehindAnOutIsNotTakenByIt() {
        Run later = TWO.then("in 1 0 10; out 1 4; in 1 -1 7");
        for (int rule = 0; rule <= 2; rule++) {
            left(later, rule, 6, 7);
        }
    }

    /** 40 of 3 came IN, and 40 times 2 go OUT. */
    private static void fortyInsAndFortyOuts() {
        Run all = TWO.each(1, 40, "in 1 -1 3").each(1, 40, "out 1 2");
        int[] dueByRules = {3, 0, 3};
        int[] dueOfFirst = {0, 3, 0};
        for (int rule = 0; rule <= 2; rule++) {
            all.answers("trace 39 " + rule, dueByRules[rule]);
            all.answers("trace 0 " + rule, dueOfFirst[rule]);
            all.answers("held 1 -1 " + rule, 40);
        }
        all.answers("trace 26 0", 1);
        all.answers("trace 13 1", 1);
    }

    // ---- promise 28

    private static void held() {
        TWO.range("held 1 ? 0", -1, 1);
        Run.chain(10).range("held 1 ? 2", -1, 9);
        TWO.range("held 1 0 ?", 0, 2);
        TWO.range("held 1 -1 ?", 0, 2);
        heldIsOfBuildersAndSuppliers();
        heldTellsBeyondAheadOfKind();
        heldIsOfOneContractInOneAccount();
    }

    private static void heldIsOfBuildersAndSuppliers() {
        for (int other : new int[] {0, 3, 4}) {
            TWO.refuses("held " + other + " -1 0", Due.KIND);
            TWO.refuses("held " + other + " 0 2", Due.KIND);
        }
        TWO.answers("held 1 0 0", 0);
        TWO.answers("held 5 0 0", 0);
        TWO.answers("held 5 -1 0", 0);
        for (String none : new String[] {"-1", "6", "least", "most"}) {
            TWO.refuses("held " + none + " -1 0", Due.BEYOND);
        }
    }

    private static void heldTellsBeyondAheadOfKind() {
        TWO.refuses("held 4 2 0", Due.BEYOND);
        TWO.refuses("held 4 -2 0", Due.BEYOND);
        TWO.refuses("held 4 0 3", Due.BEYOND);
        TWO.refuses("held 4 0 -1", Due.BEYOND);
    }

    private static void heldIsOfOneContractInOneAccount() {
        Run four = FOUR_INS.then("in 2 1 500; in 1 0 7; out 1 35");
        int[] ofFirst = {7, 10, 17};
        int[] ofSecond = {25, 30, 30};
        int[] own = {40, 32, 25};
        for (int rule = 0; rule <= 2; rule++) {
            four.answers("held 1 0 " + rule, ofFirst[rule]);
            four.answers("held 1 1 " + rule, ofSecond[rule]);
            four.answers("held 1 -1 " + rule, own[rule]);
            four.answers("held 2 1 " + rule, 500);
            four.answers("held 2 0 " + rule, 0);
        }
        TWO.each(1, 40, "in 1 0 100000").answers("held 1 0 1", 4000000);
    }
}
