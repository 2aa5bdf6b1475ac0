/** Promises 1 to 12: a test for each sentence that names an edge of parties and contracts. */
final class ContractEdgesTest {
    private static final Run NEW = Run.of("");
    private static final Run ONE = Run.row(1);
    /** 1 PARTY, 2 LENDER, 3 BUILDER, 4 SUPPLIER. */
    private static final Run KINDS = Run.of("party 0; party 1; party 2; party 3");
    private static final Run TWELVE_BUILDERS = NEW.each(1, 11, "party 2");
    private static final Run TEN_CONTRACTS = TWELVE_BUILDERS.each(1, 10, "contract #-1 # 1000");

    public static void main(String[] args) {
        newObject();
        party();
        as();
        contract();
        contractFindings();
        extra();
        began();
        ended();
        notice();
        pay();
        waive();
        waivedAndOpen();
        of();
        day();
        Due.end();
    }

    // ---- promise 1

    private static void newObject() {
        theOwnerIsThereAlone();
        theDayIsZero();
        theLawIsAsAtFirst();
        thereIsNothingElse();
        objectsAreApart();
    }

    private static void theOwnerIsThereAlone() {
        NEW.answers("count 0", 1);
        NEW.answers("as 0 0", 0);
        NEW.refuses("as 1 0", Due.BEYOND);
        for (int kind = 1; kind <= 3; kind++) {
            NEW.refuses("as 0 " + kind, Due.KIND);
        }
    }

    private static void theDayIsZero() {
        NEW.answers("count 7", 0);
        ONE.answers("began 0 0 0", 1);
        ONE.refuses("began 0 0 1", Due.BEYOND);
    }

    private static void theLawIsAsAtFirst() {
        int[] atFirst = {20, 90, 180, 3, 1, 0};
        for (int what = 0; what < atFirst.length; what++) {
            NEW.answers("law " + what + " 1", atFirst[what]);
        }
    }

    private static void thereIsNothingElse() {
        for (int what = 1; what <= 9; what++) {
            NEW.answers("count " + what, 0);
        }
        for (int k = 1; k <= 5; k++) {
            NEW.answers("found " + k, 0);
        }
        for (String call : new String[] {"extra 0 1", "began 0 0 0", "ended 0 0 0", "notice 0",
            "pay 0 1", "waive 0 0 0", "of 0 0", "file 0 1", "sue 0", "bond 0 0", "judge 0 0",
            "bar 0 0", "worth 0 0", "rank 0 0", "sale 0 0 0 0", "sale 0 0 1 0", "twice 0",
            "sign 0 0 0", "in 0 0 1", "trace 0 0", "held 0 0 0"}) {
            NEW.refuses(call, Due.BEYOND);
        }
        for (String call : new String[] {"contract 0 0 1", "loan 0 1", "in 0 -1 1", "out 0 1",
            "held 0 -1 0"}) {
            NEW.refuses(call, Due.KIND);
        }
        NEW.answers("sale 7 0 2 0", 7);
        NEW.answers("sale 7 1 2 0", 7);
        NEW.answers("check 0", 0);
    }

    private static void objectsAreApart() {
        LienTower a = new LienTower();
        LienTower b = new LienTower();
        a.party(2);
        a.contract(0, 1, 5);
        a.day(9);
        a.law(0, 7);
        a.tell(3);
        a.party(4);
        Due.is(b.count(0), 1);
        Due.is(b.count(1), 0);
        Due.is(b.count(7), 0);
        Due.is(b.count(8), 0);
        Due.is(b.law(0, 7), 20);
        Due.is(b.found(1), 0);
    }

    // ---- promise 2

    private static void party() {
        NEW.range("party ?", 0, 3);
        aPartyOfEachKindComes();
        partiesAreTwelveAtMost();
        partyTellsBeyondAheadOfFull();
        aRefusedPartyTakesNoNumber();
    }

    private static void aPartyOfEachKindComes() {
        for (int kind = 0; kind <= 3; kind++) {
            NEW.answers("party " + kind, 1);
            NEW.then("party " + kind).answers("as 1 " + kind, 0);
        }
    }

    private static void partiesAreTwelveAtMost() {
        NEW.each(1, 9, "party 0").answers("party 0", 10);
        NEW.each(1, 10, "party 0").answers("party 3", 11);
        for (int kind = 0; kind <= 3; kind++) {
            TWELVE_BUILDERS.refuses("party " + kind, Due.FULL);
        }
        TWELVE_BUILDERS.answers("count 0", 12);
    }

    private static void partyTellsBeyondAheadOfFull() {
        TWELVE_BUILDERS.range("as ? 0", 0, 11);
        TWELVE_BUILDERS.refuses("party -1", Due.BEYOND);
        TWELVE_BUILDERS.refuses("party 4", Due.BEYOND);
    }

    private static void aRefusedPartyTakesNoNumber() {
        LienTower x = new LienTower();
        Due.is(x.party(4), Due.BEYOND);
        Due.is(x.party(-1), Due.BEYOND);
        Due.is(x.party(0), 1);
    }

    // ---- promise 3

    private static void as() {
        KINDS.range("as ? 0", 0, 4);
        KINDS.range("as 4 ?", 0, 3);
        asOneOfAKindOrOfOneUnderIt();
        asTellsBeyondAheadOfKind();
        asCountsContractsThatItPays();
    }

    private static void asOneOfAKindOrOfOneUnderIt() {
        String[] kindsOfParty = {"0", "0", "01", "02", "023"};
        for (int party = 0; party <= 4; party++) {
            for (int kind = 0; kind <= 3; kind++) {
                String call = "as " + party + " " + kind;
                if (kindsOfParty[party].indexOf('0' + kind) >= 0) {
                    KINDS.answers(call, 0);
                } else {
                    KINDS.refuses(call, Due.KIND);
                }
            }
        }
    }

    private static void asTellsBeyondAheadOfKind() {
        KINDS.refuses("as 0 4", Due.BEYOND);
        KINDS.refuses("as 0 -1", Due.BEYOND);
        KINDS.refuses("as 5 1", Due.BEYOND);
        KINDS.refuses("as -1 3", Due.BEYOND);
    }

    private static void asCountsContractsThatItPays() {
        Run ownerPaysTen = TWELVE_BUILDERS.each(1, 10, "contract 0 # 1");
        ownerPaysTen.answers("as 0 0", 10);
        ownerPaysTen.answers("as 10 2", 0);
        Run builderPaysNine = TWELVE_BUILDERS.then("contract 0 1 1").each(2, 10, "contract 1 # 1");
        builderPaysNine.answers("as 0 0", 1);
        builderPaysNine.answers("as 1 0", 9);
        builderPaysNine.answers("as 1 2", 9);
        builderPaysNine.refuses("as 1 1", Due.KIND);
        builderPaysNine.refuses("as 1 3", Due.KIND);
    }

    // ---- promise 4

    private static void contract() {
        KINDS.range("contract 0 3 ?", 1, 100000);
        payerAndPayeeAreThere();
        payeesAreBuilders();
        payersAreTheOwnerOrBuildersThatAreNoSuppliers();
        aPayeeIsOneNoMore();
        aPayerIsAPayee();
        bothAreNotOne();
        contractsAreTenAtMost();
        degreesAndUppers();
    }

    private static void payerAndPayeeAreThere() {
        for (String none : new String[] {"-1", "12", "least", "most"}) {
            TWELVE_BUILDERS.refuses("contract 0 " + none + " 1", Due.BEYOND);
            TWELVE_BUILDERS.refuses("contract " + none + " 1 1", Due.BEYOND);
        }
        TWELVE_BUILDERS.answers("contract 0 1 1", 0);
        TWELVE_BUILDERS.answers("contract 0 11 1", 0);
        TWELVE_BUILDERS.then("contract 0 11 1").answers("contract 11 10 1", 1);
    }

    private static void payeesAreBuilders() {
        KINDS.refuses("contract 0 0 1", Due.KIND);
        KINDS.refuses("contract 0 1 1", Due.KIND);
        KINDS.refuses("contract 0 2 1", Due.KIND);
        KINDS.answers("contract 0 3 1", 0);
        KINDS.answers("contract 0 4 1", 0);
    }

    private static void payersAreTheOwnerOrBuildersThatAreNoSuppliers() {
        KINDS.refuses("contract 1 3 1", Due.KIND);
        KINDS.refuses("contract 2 3 1", Due.KIND);
        KINDS.refuses("contract 4 3 1", Due.KIND);
        KINDS.then("contract 0 4 1").refuses("contract 4 3 1", Due.KIND);
        KINDS.then("contract 0 3 1").answers("contract 3 4 1", 1);
    }

    private static void aPayeeIsOneNoMore() {
        ONE.refuses("contract 0 1 1", Due.STATE);
        Run.chain(2).refuses("contract 0 2 1", Due.STATE);
        Run.chain(2).refuses("contract 1 2 1", Due.STATE);
        Run.chain(2).refuses("contract 2 1 1", Due.STATE);
        ONE.then("party 2").answers("contract 0 2 1", 1);
    }

    private static void aPayerIsAPayee() {
        KINDS.refuses("contract 3 4 1", Due.STATE);
        KINDS.then("contract 0 4 1; party 2").refuses("contract 3 5 1", Due.STATE);
        KINDS.then("contract 0 3 1").answers("contract 3 4 1", 1);
    }

    private static void bothAreNotOne() {
        KINDS.refuses("contract 3 3 1", Due.STATE);
        ONE.refuses("contract 1 1 1", Due.STATE);
    }

    private static void contractsAreTenAtMost() {
        TWELVE_BUILDERS.each(1, 9, "contract 0 # 1").answers("contract 0 10 1", 9);
        TEN_CONTRACTS.refuses("contract 0 11 1", Due.FULL);
        TEN_CONTRACTS.refuses("contract 10 11 100000", Due.FULL);
        TEN_CONTRACTS.answers("count 1", 10);
        TEN_CONTRACTS.range("of ? 2", 0, 9);
    }

    private static void degreesAndUppers() {
        for (int i = 0; i < 10; i++) {
            TEN_CONTRACTS.answers("of " + i + " 7", i + 1);
            TEN_CONTRACTS.answers("of " + i + " 8", i - 1);
        }
    }

    private static void contractFindings() {
        contractTellsBeyondFirst();
        contractTellsKindAheadOfState();
        contractTellsFullLast();
    }

    private static void contractTellsBeyondFirst() {
        KINDS.refuses("contract 0 1 0", Due.BEYOND);
        KINDS.refuses("contract 4 3 100001", Due.BEYOND);
        KINDS.refuses("contract 1 5 1", Due.BEYOND);
        KINDS.refuses("contract 5 1 1", Due.BEYOND);
        ONE.refuses("contract 0 1 0", Due.BEYOND);
        ONE.refuses("contract 1 1 100001", Due.BEYOND);
        TEN_CONTRACTS.refuses("contract 0 11 0", Due.BEYOND);
        TEN_CONTRACTS.refuses("contract 0 12 1", Due.BEYOND);
    }

    private static void contractTellsKindAheadOfState() {
        KINDS.refuses("contract 3 1 1", Due.KIND);
        KINDS.refuses("contract 4 4 1", Due.KIND);
        KINDS.refuses("contract 1 1 1", Due.KIND);
        KINDS.then("contract 0 3 1").refuses("contract 2 3 1", Due.KIND);
        KINDS.then("contract 0 3 1; contract 3 4 1").refuses("contract 4 3 1", Due.KIND);
    }

    private static void contractTellsFullLast() {
        TEN_CONTRACTS.refuses("contract 0 0 1", Due.KIND);
        TEN_CONTRACTS.refuses("contract 0 1 1", Due.STATE);
        TEN_CONTRACTS.refuses("contract 11 11 1", Due.STATE);
        TEN_CONTRACTS.refuses("contract 1 10 1", Due.STATE);
    }

    // ---- promise 5

    private static void extra() {
        ONE.range("extra 0 ?", 1, 100000);
        TEN_CONTRACTS.range("extra ? 1", 0, 9);
        extraTellsTheSumThen();
        sumsAreAMillionAtMost();
        extraTellsBeyondAheadOfFull();
    }

    private static void extraTellsTheSumThen() {
        ONE.answers("extra 0 1", 1001);
        ONE.answers("extra 0 100000", 101000);
        ONE.then("extra 0 5").answers("extra 0 6", 1011);
        Run.row(2).then("extra 0 5").answers("of 1 2", 1000);
        ONE.then("pay 0 400; extra 0 5").answers("of 0 4", 605);
    }

    /** SUM is 901000 behind nine, so 99000 more are a million. */
    private static void sumsAreAMillionAtMost() {
        Run nine = ONE.each(1, 9, "extra 0 100000");
        nine.answers("extra 0 98999", 999999);
        nine.answers("extra 0 99000", 1000000);
        nine.refuses("extra 0 99001", Due.FULL);
        nine.refuses("extra 0 100000", Due.FULL);
        nine.then("extra 0 98999").answers("extra 0 1", 1000000);
        nine.then("extra 0 98999").refuses("extra 0 2", Due.FULL);
        nine.then("extra 0 99000").refuses("extra 0 1", Due.FULL);
        nine.then("extra 0 99000; pay 0 1000").refuses("extra 0 1", Due.FULL);
    }

    private static void extraTellsBeyondAheadOfFull() {
        Run million = ONE.each(1, 9, "extra 0 100000").then("extra 0 99000");
        million.refuses("extra 0 100001", Due.BEYOND);
        million.refuses("extra 0 0", Due.BEYOND);
        million.refuses("extra 0 most", Due.BEYOND);
        million.refuses("extra 1 1", Due.BEYOND);
    }

    // ---- promise 6

    private static void began() {
        TEN_CONTRACTS.range("began ? 0 0", 0, 9);
        ONE.then("day 100").range("began 0 ? 60", 0, 60);
        ONE.then("day 100").range("began 0 40 ?", 40, 100);
        ONE.then("day 5000").range("began 0 5000 ?", 5000, 5000);
        ONE.then("day 5000").range("began 0 0 ?", 0, 5000);
        beganIsUntoldAtFirst();
        beganMayBeToldAgain();
        beganIsNotToldAgainOnceItEnded();
        beganTellsBeyondAheadOfState();
    }

    private static void beganIsUntoldAtFirst() {
        ONE.answers("of 0 10", -1);
        ONE.answers("of 0 11", -1);
        ONE.then("began 0 0 0").answers("of 0 10", 0);
        ONE.then("began 0 0 0").answers("of 0 11", 0);
        Run.row(2).then("began 0 0 0").answers("of 1 10", -1);
    }

    private static void beganMayBeToldAgain() {
        Run again = ONE.then("day 9; began 0 3 5; began 0 6 9");
        again.answers("of 0 10", 6);
        again.answers("of 0 11", 9);
        again.then("began 0 0 1").answers("of 0 10", 0);
    }

    private static void beganIsNotToldAgainOnceItEnded() {
        Run ended = ONE.then("day 9; began 0 3 5; ended 0 3 9");
        ended.refuses("began 0 3 5", Due.STATE);
        ended.refuses("began 0 0 9", Due.STATE);
        Run.row(2).then("began 0 0 0; ended 0 0 0").answers("began 1 0 0", 1);
    }

    private static void beganTellsBeyondAheadOfState() {
        Run ended = ONE.then("day 9; began 0 3 5; ended 0 3 9");
        ended.refuses("began 0 3 10", Due.BEYOND);
        ended.refuses("began 0 -1 5", Due.BEYOND);
        ended.refuses("began 0 6 5", Due.BEYOND);
    }

    // ---- promise 7

    private static void ended() {
        TEN_CONTRACTS.each(0, 9, "began # 0 0").range("ended ? 0 0", 0, 9);
        Run begun = ONE.then("day 100; began 0 20 50");
        begun.range("ended 0 ? 70", 20, 70);
        begun.range("ended 0 20 ?", 20, 100);
        begun.range("ended 0 40 ?", 40, 100);
        ONE.then("day 5000; began 0 0 0").range("ended 0 5000 ?", 5000, 5000);
        ONE.then("began 0 0 0").range("ended 0 0 ?", 0, 0);
        endedIsUntoldAtFirst();
        endedMayBeToldAgain();
        endedWantsABeginning();
        endedTellsBeyondAheadOfState();
    }

    private static void endedIsUntoldAtFirst() {
        Run begun = ONE.then("began 0 0 0");
        begun.answers("of 0 12", -1);
        begun.answers("of 0 13", -1);
        begun.then("ended 0 0 0").answers("of 0 12", 0);
        begun.then("ended 0 0 0").answers("of 0 13", 0);
    }

    private static void endedMayBeToldAgain() {
        Run again = ONE.then("day 100; began 0 20 50; ended 0 60 70; ended 0 30 100");
        again.answers("of 0 12", 30);
        again.answers("of 0 13", 100);
        again.refuses("ended 0 19 100", Due.BEYOND);
        again.answers("ended 0 20 20", 1);
    }

    private static void endedWantsABeginning() {
        ONE.refuses("ended 0 0 0", Due.STATE);
        Run.row(2).then("day 7; began 0 1 2").refuses("ended 1 1 7", Due.STATE);
    }

    private static void endedTellsBeyondAheadOfState() {
        ONE.refuses("ended 0 0 1", Due.BEYOND);
        ONE.refuses("ended 0 -1 0", Due.BEYOND);
        ONE.then("day 9").refuses("ended 0 6 5", Due.BEYOND);
        ONE.refuses("ended 1 0 0", Due.BEYOND);
    }

    // ---- promise 8

    private static void notice() {
        TEN_CONTRACTS.range("notice ?", 0, 9);
        noticeIsHadOnTheDay();
        noticeIsHadOnce();
    }

    private static void noticeIsHadOnTheDay() {
        ONE.answers("of 0 9", -1);
        ONE.answers("notice 0", 1);
        ONE.then("notice 0").answers("of 0 9", 0);
        ONE.then("day 5000").answers("notice 0", 1);
        ONE.then("day 5000; notice 0").answers("of 0 9", 5000);
        ONE.then("day 3; notice 0; day 8").answers("of 0 9", 3);
    }

    private static void noticeIsHadOnce() {
        ONE.then("notice 0").refuses("notice 0", Due.STATE);
        ONE.then("notice 0; day 8").refuses("notice 0", Due.STATE);
        Run.row(2).then("notice 0").answers("notice 1", 1);
    }

    // ---- promise 9

    private static void pay() {
        Run.of("party 2; contract 0 1 100000").range("pay 0 ?", 1, 100000);
        TEN_CONTRACTS.range("pay ? 1", 0, 9);
        payTellsOwingThen();
        paidIsNeverAboveTheSum();
        payTellsBeyondAheadOfState();
    }

    private static void payTellsOwingThen() {
        ONE.answers("pay 0 1", 999);
        ONE.answers("pay 0 999", 1);
        ONE.then("pay 0 400").answers("pay 0 500", 100);
        ONE.then("waive 0 1000 0").answers("pay 0 1", 999);
        Run.row(2).then("pay 0 400").answers("of 1 3", 0);
    }

    private static void paidIsNeverAboveTheSum() {
        ONE.answers("pay 0 1000", 0);
        ONE.refuses("pay 0 1001", Due.STATE);
        ONE.refuses("pay 0 100000", Due.STATE);
        ONE.then("pay 0 999").refuses("pay 0 2", Due.STATE);
        ONE.then("pay 0 1000").refuses("pay 0 1", Due.STATE);
        ONE.then("pay 0 1000; extra 0 1").answers("pay 0 1", 0);
        ONE.then("pay 0 1000; extra 0 1").refuses("pay 0 2", Due.STATE);
        Run.of("party 2; contract 0 1 1").answers("pay 0 1", 0);
        Run million = Run.of("party 2; contract 0 1 100000").each(1, 9, "extra 0 100000");
        million.each(1, 9, "pay 0 100000").answers("pay 0 100000", 0);
        million.each(1, 10, "pay 0 100000").answers("of 0 3", 1000000);
        million.each(1, 10, "pay 0 100000").refuses("pay 0 1", Due.STATE);
    }

    private static void payTellsBeyondAheadOfState() {
        ONE.refuses("pay 0 100001", Due.BEYOND);
        ONE.refuses("pay 0 most", Due.BEYOND);
        ONE.then("pay 0 1000").refuses("pay 0 0", Due.BEYOND);
        ONE.then("pay 0 1000").refuses("pay 1 1", Due.BEYOND);
    }

    // ---- promise 10

    private static void waive() {
        ONE.range("waive 0 ? 0", 0, 1000000);
        ONE.range("waive 0 ? 1", 0, 1000000);
        ONE.range("waive 0 5 ?", 0, 1);
        TEN_CONTRACTS.range("waive ? 5 0", 0, 9);
        waiversAreTwentyOfAll();
        waiveTellsBeyondAheadOfFull();
    }

    private static void waiversAreTwentyOfAll() {
        Run.row(2).each(1, 19, "waive 0 # 0").answers("waive 1 7 0", 7);
        Run.row(2).each(1, 20, "waive 0 # 0").refuses("waive 1 7 0", Due.FULL);
        Run full = TEN_CONTRACTS.each(0, 9, "waive # 3 0; waive # 900 1");
        full.answers("count 4", 20);
        for (int i = 0; i < 10; i++) {
            full.refuses("waive " + i + " 1000 0", Due.FULL);
        }
        full.refuses("waive 0 0 1", Due.FULL);
        full.then("pay 9 900").answers("of 9 5", 900);
    }

    private static void waiveTellsBeyondAheadOfFull() {
        Run full = ONE.each(1, 20, "waive 0 # 0");
        full.refuses("waive 1 1 0", Due.BEYOND);
        full.refuses("waive 0 -1 0", Due.BEYOND);
        full.refuses("waive 0 1000001 0", Due.BEYOND);
        full.refuses("waive 0 1 2", Due.BEYOND);
        full.refuses("waive 0 1 -1", Due.BEYOND);
    }

    private static void waivedAndOpen() {
        waivedIsTheGreatestThatHolds();
        aWaiverWithAConditionHoldsFromItsAmountOn();
        openIsNotBelowZero();
        openIsLessTheGreaterOfPaidAndWaived();
    }

    private static void waivedIsTheGreatestThatHolds() {
        ONE.answers("of 0 5", 0);
        ONE.answers("waive 0 0 0", 0);
        ONE.then("waive 0 300 0").answers("waive 0 299 0", 300);
        ONE.then("waive 0 300 0").answers("waive 0 301 0", 301);
        ONE.then("waive 0 300 0").answers("waive 0 900 1", 300);
        Run.row(2).then("waive 0 300 0").answers("of 1 5", 0);
        Run.row(2).then("waive 0 300 0").answers("waive 1 7 0", 7);
    }

    private static void aWaiverWithAConditionHoldsFromItsAmountOn() {
        ONE.answers("waive 0 0 1", 0);
        ONE.answers("waive 0 1 1", 0);
        ONE.then("pay 0 399").answers("waive 0 400 1", 0);
        ONE.then("pay 0 400").answers("waive 0 400 1", 400);
        ONE.then("pay 0 401").answers("waive 0 400 1", 400);
        ONE.then("waive 0 400 1; pay 0 399").answers("of 0 5", 0);
        ONE.then("waive 0 400 1; pay 0 400").answers("of 0 5", 400);
        ONE.then("waive 0 400 1; pay 0 399; pay 0 1").answers("of 0 5", 400);
        ONE.then("waive 0 400 1; waive 0 401 1; pay 0 400").answers("of 0 5", 400);
        Run.row(2).then("waive 0 400 1; pay 1 400").answers("of 0 5", 0);
        ONE.then("waive 0 1000 1; pay 0 1000; extra 0 5").answers("of 0 5", 1000);
    }

    private static void openIsNotBelowZero() {
        ONE.then("waive 0 999 0").answers("of 0 6", 1);
        ONE.then("waive 0 1000 0").answers("of 0 6", 0);
        ONE.then("waive 0 1001 0").answers("of 0 6", 0);
        ONE.then("waive 0 1000000 0").answers("of 0 6", 0);
        ONE.then("waive 0 1001 0; extra 0 1").answers("of 0 6", 0);
        ONE.then("waive 0 1001 0; extra 0 2").answers("of 0 6", 1);
        ONE.then("pay 0 1000").answers("of 0 6", 0);
    }

    private static void openIsLessTheGreaterOfPaidAndWaived() {
        ONE.then("pay 0 300; waive 0 299 0").answers("of 0 6", 700);
        ONE.then("pay 0 300; waive 0 300 0").answers("of 0 6", 700);
        ONE.then("pay 0 300; waive 0 301 0").answers("of 0 6", 699);
        ONE.then("pay 0 300; waive 0 301 1").answers("of 0 6", 700);
    }

    // ---- promise 11

    private static void of() {
        ONE.range("of 0 ?", 0, 13);
        ONE.range("of ? 0", 0, 0);
        TEN_CONTRACTS.range("of ? 13", 0, 9);
        ofTellsNoneByMinusOne();
        ofTellsEachThing();
    }

    private static void ofTellsNoneByMinusOne() {
        for (int what = 8; what <= 13; what++) {
            ONE.answers("of 0 " + what, -1);
        }
    }

    private static void ofTellsEachThing() {
        Run all = Run.chain(2).then("day 50; began 1 3 4; ended 1 20 30; notice 1; extra 1 100;"
                + " pay 1 250; waive 1 600 0");
        int[] due = {1, 2, 1100, 250, 850, 600, 500, 2, 0, 50, 3, 4, 20, 30};
        for (int what = 0; what < due.length; what++) {
            all.answers("of 1 " + what, due[what]);
        }
    }

    // ---- promise 12

    private static void day() {
        NEW.range("day ?", 0, 5000);
        theDayNeverFalls();
        dayTellsHowManyWentBy();
    }

    private static void theDayNeverFalls() {
        NEW.then("day 30").range("day ?", 30, 5000);
        NEW.then("day 5000").range("day ?", 5000, 5000);
        NEW.then("day 30").refuses("day 0", Due.BEYOND);
        NEW.then("day 30; day 30").answers("count 7", 30);
    }

    private static void dayTellsHowManyWentBy() {
        NEW.answers("day 0", 0);
        NEW.answers("day 1", 1);
        NEW.answers("day 5000", 5000);
        NEW.then("day 30").answers("day 30", 0);
        NEW.then("day 30").answers("day 5000", 4970);
        NEW.then("day 5000").answers("day 5000", 0);
    }
}
