/** Promises 29 to 32: a test for each sentence that names an edge of what is told. */
final class ToldEdgesTest {
    private static final Run NEW = Run.of("");
    private static final Run SIXTEEN_WAIT = NEW.each(1, 16, "tell #");
    private static final Run TWO_CLAIMS = Run.row(2).each(0, 1, "began # 0 0; file # 50");

    public static void main(String[] args) {
        tell();
        check();
        checkFindings();
        count();
        found();
        foundOfEachCall();
        Due.end();
    }

    // ---- promise 29

    private static void tell() {
        anyNumberMayWait();
        numbersThatWaitAreSixteenAtMost();
    }

    private static void anyNumberMayWait() {
        for (String v : new String[] {"0", "-1", "1", "least", "most", "-1000000001"}) {
            NEW.answers("tell " + v, 1);
            NEW.then("tell " + v).answers("count 8", 1);
        }
    }

    private static void numbersThatWaitAreSixteenAtMost() {
        NEW.each(1, 14, "tell 0").answers("tell 0", 15);
        NEW.each(1, 15, "tell 0").answers("tell 0", 16);
        SIXTEEN_WAIT.refuses("tell 0", Due.FULL);
        SIXTEEN_WAIT.refuses("tell least", Due.FULL);
        SIXTEEN_WAIT.refuses("tell most", Due.FULL);
        SIXTEEN_WAIT.answers("count 8", 16);
        SIXTEEN_WAIT.then("check 0").answers("tell 5", 1);
        aNumberThatWasRefusedDoesNotWait();
    }

    private static void aNumberThatWasRefusedDoesNotWait() {
        LienTower x = Towers.row(100);
        for (int i = 0; i < 16; i++) {
            x.file(0, 5);
            x.tell(5);
        }
        Due.is(x.tell(6), Due.FULL);
        Due.is(x.check(80), 0);
        Due.is(x.tell(6), 1);
        Due.is(x.check(80), 1);
    }

    // ---- promise 30

    private static void check() {
        ifNoneWaitTheyAreRight();
        theFirstThatIsNotIsTold();
        aNumberWithoutAClaimIsNot();
        fewerNumbersThanClaimsAreRight();
        sixteenNumbersForSixteenClaims();
        noneWaitBehindACheck();
        checkIsOfASaleByTheEarliestRanksOnTheDay();
        numbersBeyondAnyShareAreNot();
    }

    private static void ifNoneWaitTheyAreRight() {
        NEW.answers("check 0", 0);
        NEW.answers("check 10000000", 0);
        TWO_CLAIMS.answers("check 5", 0);
    }

    private static void theFirstThatIsNotIsTold() {
        TWO_CLAIMS.then("tell 50; tell 50").answers("check 100", 0);
        TWO_CLAIMS.then("tell 49; tell 50").answers("check 100", 1);
        TWO_CLAIMS.then("tell 51; tell 49").answers("check 100", 1);
        TWO_CLAIMS.then("tell 50; tell 49").answers("check 100", 2);
        TWO_CLAIMS.then("tell 50; tell 51").answers("check 100", 2);
    }

    private static void aNumberWithoutAClaimIsNot() {
        NEW.then("tell 0").answers("check 0", 1);
        TWO_CLAIMS.then("tell 50; tell 50; tell 0").answers("check 100", 3);
        TWO_CLAIMS.then("tell 50; tell 50; tell 0; tell 0").answers("check 100", 3);
        TWO_CLAIMS.then("tell 50; tell 5; tell 0").answers("check 100", 2);
        SIXTEEN_WAIT.answers("check 0", 1);
    }

    private static void fewerNumbersThanClaimsAreRight() {
        TWO_CLAIMS.then("tell 50").answers("check 100", 0);
        TWO_CLAIMS.then("tell 51").answers("check 100", 1);
    }

    private static void sixteenNumbersForSixteenClaims() {
        Run all = Run.row(1).then("began 0 0 0").each(0, 15, "file 0 5");
        all.each(0, 15, "tell 5").answers("check 80", 0);
        all.each(0, 14, "tell 5").then("tell 4").answers("check 79", 0);
        all.each(0, 14, "tell 5").then("tell 4").answers("check 80", 16);
        all.each(0, 15, "tell 0").answers("check 0", 0);
        Run fifteen = Run.row(1).then("began 0 0 0").each(0, 14, "file 0 5");
        fifteen.each(0, 15, "tell 5").answers("check 80", 16);
    }

    private static void noneWaitBehindACheck() {
        TWO_CLAIMS.then("tell 50; tell 50; check 100").answers("count 8", 0);
        TWO_CLAIMS.then("tell 51; tell 50; check 100").answers("count 8", 0);
        TWO_CLAIMS.then("tell 51; check 100").answers("check 100", 0);
        TWO_CLAIMS.then("tell 51; check 100").answers("tell 50", 1);
        TWO_CLAIMS.then("tell 51; check 100; tell 50").answers("check 100", 0);
    }

    private static void checkIsOfASaleByTheEarliestRanksOnTheDay() {
        Run perhaps = Run.row(1).then("began 0 0 0; day 95; file 0 50; ended 0 0 95");
        perhaps.then("tell 50").answers("check 60", 0);
        perhaps.then("tell 0").answers("check 60", 1);
        TWO_CLAIMS.then("day 180; tell 50").answers("check 100", 0);
        TWO_CLAIMS.then("day 181; tell 50").answers("check 100", 1);
        TWO_CLAIMS.then("day 181; tell 0; tell 0").answers("check 100", 0);
        TWO_CLAIMS.then("bond 0 1; tell 0; tell 50").answers("check 50", 0);
    }

    private static void numbersBeyondAnyShareAreNot() {
        for (String v : new String[] {"-1", "least", "most", "-1000000001"}) {
            TWO_CLAIMS.then("tell " + v).answers("check 100", 1);
            TWO_CLAIMS.then("tell 50; tell " + v).answers("check 100", 2);
        }
    }

    /** Behind a BEYOND none wait, as behind a check that is right. */
    private static void checkFindings() {
        Run waiting = TWO_CLAIMS.then("tell 50; tell 50");
        for (String coin : new String[] {"-1", "10000001", "least", "most"}) {
            waiting.refusesAs("check " + coin, Due.BEYOND, waiting.then("check 0"));
            SIXTEEN_WAIT.refusesAs("check " + coin, Due.BEYOND, NEW);
            NEW.refuses("check " + coin, Due.BEYOND);
        }
        waiting.answers("check 0", 1);
        waiting.answers("check 10000000", 0);
    }

    // ---- promise 31

    private static void count() {
        NEW.range("count ?", 0, 9);
        TWO_CLAIMS.range("count ?", 0, 9);
        countOfGoodClaimsIsOnTheDay();
    }

    private static void countOfGoodClaimsIsOnTheDay() {
        TWO_CLAIMS.answers("count 9", 2);
        TWO_CLAIMS.then("bond 0 1").answers("count 9", 2);
        TWO_CLAIMS.then("day 180").answers("count 9", 2);
        TWO_CLAIMS.then("day 181").answers("count 9", 0);
        TWO_CLAIMS.then("sue 1; day 181").answers("count 9", 1);
        TWO_CLAIMS.then("pay 0 1000").answers("count 9", 1);
        TWO_CLAIMS.then("pay 0 1000; pay 1 1000").answers("count 9", 0);
        Run perhaps = TWO_CLAIMS.then("day 95; file 0 1; ended 0 4 5");
        perhaps.answers("judge 2 95", 1);
        perhaps.answers("count 9", 2);
        Run.row(1).then("began 0 0 0").each(0, 15, "file 0 1").answers("count 9", 16);
    }

    // ---- promise 32

    private static void found() {
        NEW.range("found ?", 1, 5);
        anotherKIsCountedToo();
        noneIsNeverFound();
        whatIsTakenIsNotCounted();
    }

    private static void anotherKIsCountedToo() {
        LienTower x = new LienTower();
        Due.is(x.found(0), Due.BEYOND);
        Due.is(x.found(1), 1);
        Due.is(x.found(6), Due.BEYOND);
        Due.is(x.found(1), 2);
        Due.is(x.found(1), 2);
        for (int i = 3; i <= 508; i++) {
            Due.is(x.found(i % 2 == 0 ? 0 : 6), Due.BEYOND);
        }
        // The 512th call, the last that is promised.
        Due.is(x.found(1), 508);
    }

    private static void noneIsNeverFound() {
        LienTower x = new LienTower();
        x.found(9);
        x.as(0, 1);
        x.party(2);
        x.contract(1, 1, 1);
        for (int i = 0; i < 17; i++) {
            x.tell(0);
        }
        int[] due = {0, 1, 0, 1, 1, 1};
        for (int k = 1; k <= 5; k++) {
            Due.is(x.found(k), due[k]);
        }
    }

    /** Answers of 0 and of -1, and a check that is not right, are no findings. */
    private static void whatIsTakenIsNotCounted() {
        LienTower x = new LienTower();
        x.party(2);
        x.contract(0, 1, 5);
        Due.is(x.of(0, 8), -1);
        Due.is(x.of(0, 9), -1);
        x.tell(-1000000001);
        Due.is(x.check(3), 1);
        Due.is(x.day(0), 0);
        for (int k = 1; k <= 5; k++) {
            Due.is(x.found(k), 0);
        }
    }

    /** One call more is found behind each of them, whichever it is. */
    private static void foundOfEachCall() {
        LienTower x = new LienTower();
        String[] beyond = {"party 4", "as 1 0", "contract 0 0 0", "extra 0 1", "began 0 0 0",
            "ended 0 0 0", "notice 0", "pay 0 1", "waive 0 0 0", "of 0 0", "day -1", "law 6 0",
            "file 0 1", "sue 0", "bond 0 0", "judge 0 0", "bar 0 0", "worth 0 0", "rank 0 0",
            "loan 0 0", "sale -1 0 2 0", "twice 0", "sign 0 0 0", "in 0 0 1", "out 0 0",
            "trace 0 0", "held 0 0 0", "check -1", "count 10", "found 0"};
        for (int i = 0; i < beyond.length; i++) {
            Due.same(beyond[i], Calls.answer(x, beyond[i]), Due.BEYOND);
            Due.same("found behind " + beyond[i], x.found(1), i + 1);
        }
    }
}
