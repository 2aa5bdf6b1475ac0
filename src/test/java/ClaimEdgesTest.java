/** Promises 13 to 20: a test for each sentence that names an edge of the law and of claims. */
final class ClaimEdgesTest {
    private static final Run NEW = Run.of("");
    private static final Run BEGUN = Run.row(1).then("began 0 0 0");
    private static final Run FILED = BEGUN.then("file 0 500");
    private static final Run FILED_ON_TEN = BEGUN.then("day 10; file 0 5");
    private static final Run SIXTEEN_CLAIMS = BEGUN.each(0, 15, "file 0 50");
    /** DEGREE 1 .. 10, begun and noticed on day 0. */
    private static final Run TEN_DEGREES = Run.chain(10).each(0, 9, "began # 0 0; notice #");

    public static void main(String[] args) {
        law();
        file();
        sue();
        bond();
        judgeAndBarFindings();
        barOfDegree();
        barOfNotice();
        barOfFiling();
        barOfSuit();
        barOfOpen();
        onlyTheSuitLooksAtTheDayOfJudging();
        barsInTheirOrder();
        worth();
        worthOfSeveral();
        worthCapped();
        rank();
        Due.end();
    }

    // ---- promise 13

    private static void law() {
        NEW.range("law ? 1", 0, 5);
        NEW.range("law 0 ?", 0, 365);
        NEW.range("law 1 ?", 0, 365);
        NEW.range("law 2 ?", 0, 1000);
        NEW.range("law 3 ?", 1, 9);
        NEW.range("law 4 ?", 0, 2);
        NEW.range("law 5 ?", 0, 1);
        lawTellsWhatItWas();
        lawsAreApart();
    }

    private static void lawTellsWhatItWas() {
        int[] atFirst = {20, 90, 180, 3, 1, 0};
        int[] most = {365, 365, 1000, 9, 2, 1};
        for (int what = 0; what <= 5; what++) {
            String law = "law " + what + " ";
            NEW.answers(law + most[what], atFirst[what]);
            NEW.then(law + most[what]).answers(law + most[what], most[what]);
            NEW.then(law + most[what]).answers(law + "1", most[what]);
            NEW.then(law + most[what] + ";" + law + "1").answers(law + "1", 1);
        }
    }

    private static void lawsAreApart() {
        Run all = NEW.then("law 0 1; law 1 2; law 2 3; law 3 4; law 4 2; law 5 1");
        int[] due = {1, 2, 3, 4, 2, 1};
        for (int what = 0; what <= 5; what++) {
            all.answers("law " + what + " 1", due[what]);
        }
    }

    // ---- promise 14

    private static void file() {
        BEGUN.range("file 0 ?", 1, 1000000);
        TEN_DEGREES.range("file ? 1", 0, 9);
        claimsAreSixteenAtMost();
        fileWantsABeginning();
        fileTellsBeyondFirst();
        fileTellsFullLast();
        fileMayBeForAClaimThatIsBad();
    }

    private static void claimsAreSixteenAtMost() {
        BEGUN.answers("file 0 1", 0);
        BEGUN.each(0, 14, "file 0 1").answers("file 0 1", 15);
        SIXTEEN_CLAIMS.refuses("file 0 1", Due.FULL);
        SIXTEEN_CLAIMS.refuses("file 0 1000000", Due.FULL);
        SIXTEEN_CLAIMS.then("day 5000").refuses("file 0 1", Due.FULL);
        SIXTEEN_CLAIMS.answers("count 2", 16);
        TEN_DEGREES.each(0, 9, "file # 1").each(0, 5, "file # 1").refuses("file 9 1", Due.FULL);
    }

    private static void fileWantsABeginning() {
        Run.row(1).refuses("file 0 1", Due.STATE);
        Run.row(2).then("began 0 0 0").refuses("file 1 1", Due.STATE);
        Run.row(2).then("began 1 0 0").answers("file 1 1", 0);
    }

    private static void fileTellsBeyondFirst() {
        Run.row(1).refuses("file 0 0", Due.BEYOND);
        Run.row(1).refuses("file 0 1000001", Due.BEYOND);
        Run.row(1).refuses("file 1 1", Due.BEYOND);
        SIXTEEN_CLAIMS.refuses("file 0 0", Due.BEYOND);
        SIXTEEN_CLAIMS.refuses("file 0 1000001", Due.BEYOND);
        SIXTEEN_CLAIMS.refuses("file 1 1", Due.BEYOND);
        SIXTEEN_CLAIMS.refuses("file -1 1", Due.BEYOND);
    }

    private static void fileTellsFullLast() {
        Run full = Run.row(2).then("began 0 0 0").each(0, 15, "file 0 1");
        full.refuses("file 1 1", Due.STATE);
        full.then("began 1 0 0").refuses("file 1 1", Due.FULL);
    }

    private static void fileMayBeForAClaimThatIsBad() {
        BEGUN.then("pay 0 1000").answers("file 0 1", 0);
        TEN_DEGREES.answers("file 9 1", 0);
        BEGUN.then("ended 0 0 0; day 5000").answers("file 0 1", 0);
    }

    // ---- promise 15

    private static void sue() {
        SIXTEEN_CLAIMS.range("sue ?", 0, 15);
        FILED.range("sue ?", 0, 0);
        aClaimIsSuedForOnce();
    }

    private static void aClaimIsSuedForOnce() {
        FILED.answers("sue 0", 1);
        FILED.then("sue 0").refuses("sue 0", Due.STATE);
        FILED.then("sue 0; day 5000").refuses("sue 0", Due.STATE);
        FILED.then("day 5000").answers("sue 0", 1);
        FILED.then("day 5000; sue 0").refuses("sue 0", Due.STATE);
        FILED.then("file 0 1; sue 0").answers("sue 1", 1);
        // A suit that was refused is not one on that day: the first still holds.
        LienTower x = Towers.row(100);
        x.file(0, 5);
        x.day(180);
        x.sue(0);
        x.day(181);
        Due.is(x.sue(0), Due.STATE);
        Due.is(x.bar(0, 181), 0);
    }

    // ---- promise 16

    private static void bond() {
        SIXTEEN_CLAIMS.range("bond ? 1", 0, 15);
        FILED.range("bond ? 1", 0, 0);
        FILED.range("bond 0 ?", 0, 1);
        FILED.then("bond 0 1").range("bond 0 ?", 0, 1);
        bondTellsWhatItWas();
    }

    private static void bondTellsWhatItWas() {
        FILED.answers("bond 0 0", 0);
        FILED.answers("bond 0 1", 0);
        FILED.then("bond 0 1").answers("bond 0 1", 1);
        FILED.then("bond 0 1").answers("bond 0 0", 1);
        FILED.then("bond 0 1; bond 0 0").answers("bond 0 1", 0);
        FILED.then("file 0 1; bond 0 1").answers("bond 1 0", 0);
    }

    // ---- promises 17 and 18

    private static void judgeAndBarFindings() {
        for (String call : new String[] {"judge", "bar"}) {
            SIXTEEN_CLAIMS.range(call + " ? 0", 0, 15);
            FILED.range(call + " 0 ?", 0, 5000);
            BEGUN.then("day 40; file 0 1").range(call + " 0 ?", 40, 5000);
            BEGUN.then("day 40; file 0 1; day 90").range(call + " 0 ?", 40, 5000);
            BEGUN.then("day 5000; file 0 1").range(call + " 0 ?", 5000, 5000);
            Run two = FILED.then("day 40; file 0 1");
            two.range(call + " 0 ?", 0, 5000);
            two.range(call + " 1 ?", 40, 5000);
        }
    }

    /** What bar() answers, and that judge() fits it. */
    private static void barIs(Run run, int claim, int day, int due) {
        run.answers("bar " + claim + " " + day, due);
        run.answers("judge " + claim + " " + day, due == 0 ? 2 : due > 10 ? 1 : 0);
    }

    private static void barOfDegree() {
        Run filed = TEN_DEGREES.each(0, 9, "file # 1");
        for (int chain = 1; chain <= 9; chain++) {
            Run told = filed.then("law 3 " + chain);
            barIs(told, chain - 1, 0, 0);
            barIs(told, chain, 0, 1);
            barIs(told, 9, 0, 1);
        }
        barIs(filed, 2, 0, 0);
        barIs(filed, 3, 0, 1);
    }

    private static void barOfNotice() {
        noticeThatWasNotHad();
        noticeDaysOfASpan();
        noticeDaysOfOneDay();
        noticeByTheLeastAndTheMostOfTheLaw();
        noticeIsForDegreeTwoOrMore();
    }

    private static Run noticeOn(int day, String began) {
        return Run.chain(2).then("day " + day + "; notice 1; day 1000; began 1 " + began
                + "; file 1 5");
    }

    private static void noticeThatWasNotHad() {
        Run filed = Run.chain(2).then("began 1 0 0; file 1 5");
        barIs(filed, 0, 0, 2);
        barIs(filed.then("law 0 365"), 0, 0, 2);
        barIs(filed.then("notice 0"), 0, 0, 2);
        barIs(filed.then("notice 1"), 0, 0, 0);
    }

    private static void noticeDaysOfASpan() {
        barIs(noticeOn(0, "10 40"), 0, 1000, 0);
        barIs(noticeOn(30, "10 40"), 0, 1000, 0);
        barIs(noticeOn(31, "10 40"), 0, 1000, 12);
        barIs(noticeOn(60, "10 40"), 0, 1000, 12);
        barIs(noticeOn(61, "10 40"), 0, 1000, 2);
    }

    private static void noticeDaysOfOneDay() {
        barIs(noticeOn(60, "40 40"), 0, 1000, 0);
        barIs(noticeOn(61, "40 40"), 0, 1000, 2);
        barIs(noticeOn(61, "40 41"), 0, 1000, 12);
    }

    private static void noticeByTheLeastAndTheMostOfTheLaw() {
        barIs(noticeOn(40, "40 40").then("law 0 0"), 0, 1000, 0);
        barIs(noticeOn(41, "40 40").then("law 0 0"), 0, 1000, 2);
        barIs(noticeOn(405, "40 40").then("law 0 365"), 0, 1000, 0);
        barIs(noticeOn(406, "40 40").then("law 0 365"), 0, 1000, 2);
        barIs(noticeOn(1000, "0 1000").then("law 0 365"), 0, 1000, 12);
    }

    private static void noticeIsForDegreeTwoOrMore() {
        Run late = Run.chain(3).then("day 100").each(0, 2, "began # 0 0; file # 5");
        barIs(late, 0, 100, 0);
        barIs(late, 1, 100, 2);
        barIs(late, 2, 100, 2);
        barIs(late.then("notice 0; notice 1; notice 2"), 0, 100, 0);
        barIs(late.then("notice 0; notice 1; notice 2"), 1, 100, 2);
        barIs(late.then("notice 0; notice 1; notice 2"), 2, 100, 2);
    }

    private static void barOfFiling() {
        filingDaysOfASpan();
        filingByTheLeastAndTheMostOfTheLaw();
        filingWhileItHasNotEnded();
    }

    private static Run filedOn(int day, String ended) {
        return BEGUN.then("day " + day + "; file 0 5; day 1000; ended 0 " + ended + "; law 2 1000");
    }

    private static void filingDaysOfASpan() {
        barIs(filedOn(0, "10 40"), 0, 1000, 0);
        barIs(filedOn(100, "10 40"), 0, 1000, 0);
        barIs(filedOn(101, "10 40"), 0, 1000, 13);
        barIs(filedOn(130, "10 40"), 0, 1000, 13);
        barIs(filedOn(131, "10 40"), 0, 1000, 3);
        barIs(filedOn(130, "40 40"), 0, 1000, 0);
        barIs(filedOn(131, "40 40"), 0, 1000, 3);
        barIs(filedOn(131, "40 41"), 0, 1000, 13);
    }

    private static void filingByTheLeastAndTheMostOfTheLaw() {
        barIs(filedOn(40, "40 40").then("law 1 0"), 0, 1000, 0);
        barIs(filedOn(41, "40 40").then("law 1 0"), 0, 1000, 3);
        barIs(filedOn(405, "40 40").then("law 1 365"), 0, 1000, 0);
        barIs(filedOn(406, "40 40").then("law 1 365"), 0, 1000, 3);
    }

    private static void filingWhileItHasNotEnded() {
        barIs(BEGUN.then("day 5000; file 0 5"), 0, 5000, 0);
        barIs(BEGUN.then("law 1 0; day 5000; file 0 5"), 0, 5000, 0);
        barIs(BEGUN.then("law 1 0; day 5000; file 0 5; ended 0 4999 4999"), 0, 5000, 3);
    }

    private static void barOfSuit() {
        suitDaysWithoutASuit();
        suitDaysWithASuit();
        suitByTheLeastAndTheMostOfTheLaw();
    }

    private static void suitDaysWithoutASuit() {
        barIs(FILED_ON_TEN, 0, 10, 0);
        barIs(FILED_ON_TEN, 0, 190, 0);
        barIs(FILED_ON_TEN, 0, 191, 4);
        barIs(FILED_ON_TEN, 0, 5000, 4);
    }

    private static void suitDaysWithASuit() {
        barIs(FILED_ON_TEN.then("sue 0"), 0, 5000, 0);
        barIs(FILED_ON_TEN.then("day 190; sue 0"), 0, 191, 0);
        barIs(FILED_ON_TEN.then("day 190; sue 0"), 0, 5000, 0);
        barIs(FILED_ON_TEN.then("day 191; sue 0"), 0, 190, 0);
        barIs(FILED_ON_TEN.then("day 191; sue 0"), 0, 191, 4);
        barIs(FILED_ON_TEN.then("day 191; sue 0; law 2 181"), 0, 5000, 0);
        barIs(FILED_ON_TEN.then("day 190; sue 0; law 2 179"), 0, 190, 4);
    }

    private static void suitByTheLeastAndTheMostOfTheLaw() {
        barIs(FILED_ON_TEN.then("law 2 0"), 0, 10, 0);
        barIs(FILED_ON_TEN.then("law 2 0"), 0, 11, 4);
        barIs(FILED_ON_TEN.then("law 2 0; sue 0"), 0, 5000, 0);
        barIs(FILED_ON_TEN.then("law 2 0; day 11; sue 0"), 0, 11, 4);
        barIs(FILED_ON_TEN.then("law 2 1000"), 0, 1010, 0);
        barIs(FILED_ON_TEN.then("law 2 1000"), 0, 1011, 4);
        barIs(BEGUN.then("law 2 0; day 5000; file 0 5"), 0, 5000, 0);
    }

    private static void barOfOpen() {
        barIs(FILED.then("pay 0 999"), 0, 0, 0);
        barIs(FILED.then("pay 0 1000"), 0, 0, 5);
        barIs(FILED.then("pay 0 1000; extra 0 1"), 0, 0, 0);
        barIs(FILED.then("waive 0 999 0"), 0, 0, 0);
        barIs(FILED.then("waive 0 1000 0"), 0, 0, 5);
        barIs(FILED.then("waive 0 1001 0; extra 0 1"), 0, 0, 5);
        barIs(FILED.then("waive 0 1000 1"), 0, 0, 0);
        barIs(FILED.then("waive 0 1000 1; extra 0 1; pay 0 1000"), 0, 0, 0);
    }

    /** Of the bars 4 alone names the day; what was told later than it counts for all others. */
    private static void onlyTheSuitLooksAtTheDayOfJudging() {
        Run filed = Run.chain(2).then("began 1 0 0; file 1 5");
        barIs(filed.then("day 20; notice 1"), 0, 0, 0);
        barIs(filed.then("day 21; notice 1"), 0, 0, 2);
        barIs(filed.then("notice 1; day 50; law 3 1"), 0, 0, 1);
        barIs(filed.then("notice 1; day 50; pay 1 1000"), 0, 0, 5);
        barIs(filed.then("notice 1; day 180; sue 0"), 0, 0, 0);
        Run late = Run.row(1).then("began 0 0 0; day 91; file 0 5; day 200");
        barIs(late.then("ended 0 0 1"), 0, 91, 13);
        barIs(late.then("ended 0 0 0"), 0, 91, 3);
    }

    /** Contract 1 of two, by which of the bars hold: a ? behind one says that it may be. */
    private static Run barred(String bars) {
        String began = bars.contains("2?") ? "0 280" : bars.contains("2") ? "0 0" : "280 280";
        String ended = bars.contains("3?") ? "280 600" : bars.contains("3") ? "280 280" : "600 600";
        return Run.chain(2).then("day 300; notice 1; day 600; began 1 " + began + "; file 1 5;"
                + " ended 1 " + ended + (bars.contains("1") ? "; law 3 1" : "")
                + (bars.contains("4") ? "; law 2 0" : "")
                + (bars.contains("5") ? "; pay 1 1000" : ""));
    }

    private static void barsInTheirOrder() {
        barIs(barred(""), 0, 601, 0);
        String[] sures = {"1", "2", "3", "4", "5"};
        for (int i = 0; i < 5; i++) {
            barIs(barred(sures[i]), 0, 601, i + 1);
            for (int j = i + 1; j < 5; j++) {
                barIs(barred(sures[i] + sures[j]), 0, 601, i + 1);
            }
        }
        barIs(barred("12345"), 0, 601, 1);
        barIs(barred("2?"), 0, 601, 12);
        barIs(barred("3?"), 0, 601, 13);
        barIs(barred("2? 3?"), 0, 601, 12);
        sureBarsAreToldAheadOfThoseThatMayBe();
    }

    private static void sureBarsAreToldAheadOfThoseThatMayBe() {
        barIs(barred("2? 3"), 0, 601, 3);
        barIs(barred("2? 4"), 0, 601, 4);
        barIs(barred("2? 5"), 0, 601, 5);
        barIs(barred("3? 1"), 0, 601, 1);
        barIs(barred("3? 2"), 0, 601, 2);
        barIs(barred("3? 4"), 0, 601, 4);
        barIs(barred("3? 5"), 0, 601, 5);
        barIs(barred("2? 3? 5"), 0, 601, 5);
    }

    // ---- promise 19

    private static void worth() {
        SIXTEEN_CLAIMS.range("worth ? 0", 0, 15);
        FILED.range("worth ? 0", 0, 0);
        FILED.range("worth 0 ?", 0, 5000);
        BEGUN.then("day 5000; file 0 1").range("worth 0 ?", 0, 5000);
        worthIsNoMoreThanOpen();
        worthOfABadClaimIsNothing();
        worthAheadOfTheDayFiled();
    }

    private static void worthIsNoMoreThanOpen() {
        BEGUN.then("file 0 1").answers("worth 0 0", 1);
        BEGUN.then("file 0 999").answers("worth 0 0", 999);
        BEGUN.then("file 0 1000").answers("worth 0 0", 1000);
        BEGUN.then("file 0 1001").answers("worth 0 0", 1000);
        BEGUN.then("file 0 1000000").answers("worth 0 0", 1000);
        FILED.then("pay 0 500").answers("worth 0 0", 500);
        FILED.then("pay 0 501").answers("worth 0 0", 499);
        FILED.then("waive 0 501 0").answers("worth 0 0", 499);
        FILED.then("waive 0 501 1").answers("worth 0 0", 500);
        Run most = Run.of("party 2; contract 0 1 100000").each(1, 9, "extra 0 100000")
                .then("began 0 0 0; file 0 1000000");
        most.answers("worth 0 0", 1000000);
    }

    private static void worthOfABadClaimIsNothing() {
        FILED.then("pay 0 1000").answers("worth 0 0", 0);
        FILED.answers("worth 0 180", 500);
        FILED.answers("worth 0 181", 0);
        FILED.answers("worth 0 5000", 0);
        Run.chain(2).then("began 1 0 0; file 1 5").answers("worth 0 0", 0);
        barred("2?").answers("worth 0 601", 5);
        barred("3?").answers("worth 0 601", 5);
        barred("3").answers("worth 0 601", 0);
    }

    private static void worthAheadOfTheDayFiled() {
        FILED_ON_TEN.answers("worth 0 0", 0);
        FILED_ON_TEN.answers("worth 0 9", 0);
        FILED_ON_TEN.answers("worth 0 10", 5);
        FILED_ON_TEN.then("file 0 7; day 20; file 0 8").answers("worth 1 10", 7);
        FILED_ON_TEN.then("file 0 7; day 20; file 0 8").answers("worth 2 19", 0);
        FILED_ON_TEN.then("file 0 7; day 20; file 0 8").answers("worth 2 20", 8);
    }

    private static void worthOfSeveral() {
        BEGUN.then("file 0 1000; file 0 1").answers("worth 1 0", 0);
        BEGUN.then("file 0 999; file 0 1").answers("worth 1 0", 1);
        BEGUN.then("file 0 999; file 0 2").answers("worth 1 0", 1);
        BEGUN.then("file 0 1001; file 0 2").answers("worth 1 0", 0);
        Run.row(2).each(0, 1, "began # 0 0; file # 1000").answers("worth 1 0", 1000);
        SIXTEEN_CLAIMS.then("pay 0 200").answers("worth 15 0", 50);
        SIXTEEN_CLAIMS.then("pay 0 201").answers("worth 15 0", 49);
        SIXTEEN_CLAIMS.then("pay 0 251").answers("worth 15 0", 0);
        SIXTEEN_CLAIMS.then("pay 0 251").answers("worth 14 0", 49);
        SIXTEEN_CLAIMS.then("pay 0 950").answers("worth 0 0", 50);
        SIXTEEN_CLAIMS.then("pay 0 950").answers("worth 1 0", 0);
        aBadClaimLeavesAllToTheNext();
        aBondedOneAndOneThatMayBeBarredHaveTheirPart();
    }

    private static void aBadClaimLeavesAllToTheNext() {
        Run two = BEGUN.then("file 0 700; file 0 700; sue 1");
        two.answers("worth 0 180", 700);
        two.answers("worth 1 180", 300);
        two.answers("worth 0 181", 0);
        two.answers("worth 1 181", 700);
    }

    private static void aBondedOneAndOneThatMayBeBarredHaveTheirPart() {
        BEGUN.then("file 0 700; file 0 700; bond 0 1").answers("worth 0 0", 700);
        BEGUN.then("file 0 700; file 0 700; bond 0 1").answers("worth 1 0", 300);
        Run perhaps = BEGUN.then("day 95; file 0 700; file 0 700; ended 0 0 95");
        perhaps.answers("judge 0 95", 1);
        perhaps.answers("worth 0 95", 700);
        perhaps.answers("worth 1 95", 300);
    }

    private static void worthCapped() {
        Run filed = Run.chain(3).each(0, 2, "began # 0 0; notice #").then("file 2 600; law 5 1");
        filed.answers("worth 0 0", 600);
        filed.then("pay 1 400").answers("worth 0 0", 600);
        filed.then("pay 1 401").answers("worth 0 0", 599);
        filed.then("pay 0 400").answers("worth 0 0", 600);
        filed.then("pay 0 401").answers("worth 0 0", 599);
        filed.then("pay 0 401; pay 1 402").answers("worth 0 0", 598);
        filed.then("pay 0 402; pay 1 401").answers("worth 0 0", 598);
        filed.then("pay 0 1000; law 5 0").answers("worth 0 0", 600);
        filed.then("waive 0 1000 0; waive 1 1000 0").answers("worth 0 0", 600);
        filed.then("file 2 1000").answers("worth 1 0", 400);
        filed.then("file 2 1000; pay 0 399").answers("worth 1 0", 1);
        filed.then("file 2 1000; pay 0 400").answers("worth 1 0", 0);
        anUpperThatIsPaidLeavesNothingButIsNoBar(filed.then("pay 0 1000"));
        noUpperIsNoCap();
    }

    private static void anUpperThatIsPaidLeavesNothingButIsNoBar(Run paid) {
        paid.answers("worth 0 0", 0);
        barIs(paid, 0, 0, 0);
        paid.answers("count 9", 1);
    }

    private static void noUpperIsNoCap() {
        Run two = Run.row(2).each(0, 1, "began # 0 0; file # 1000").then("law 5 1; pay 0 1000");
        two.answers("worth 1 0", 1000);
        FILED.then("law 5 1").answers("worth 0 0", 500);
    }

    // ---- promise 20

    private static void rank() {
        SIXTEEN_CLAIMS.range("rank ? 0", 0, 15);
        FILED.range("rank ? 1", 0, 0);
        FILED.range("rank 0 ?", 0, 1);
        rankByRelates();
        rankOfTheFirstSpade();
        rankIsToldOfABadClaimToo();
    }

    private static void rankByRelates() {
        Run two = Run.row(2).then("day 100; began 0 30 60; began 1 40 50; file 0 1; day 5000;"
                + " file 1 1");
        int[][] due = {{30, 60, 40, 50}, {30, 50, 30, 50}, {100, 100, 5000, 5000}};
        for (int relates = 0; relates <= 2; relates++) {
            for (int i = 0; i < 4; i++) {
                two.then("law 4 " + relates).answers("rank " + i / 2 + " " + i % 2, due[relates][i]);
            }
        }
    }

    private static void rankOfTheFirstSpade() {
        FILED.answers("rank 0 0", 0);
        FILED.answers("rank 0 1", 0);
        Run three = Run.row(3).then("day 100; began 1 40 50; file 1 1");
        three.answers("rank 0 0", 40);
        three.answers("rank 0 1", 50);
        three.then("began 0 39 51").answers("rank 0 0", 39);
        three.then("began 0 39 51").answers("rank 0 1", 50);
        three.then("began 2 41 49").answers("rank 0 0", 40);
        three.then("began 2 41 49").answers("rank 0 1", 49);
        three.then("began 2 0 0; began 0 0 100").answers("rank 0 1", 0);
        Run ten = TEN_DEGREES.then("day 9; file 0 1").each(0, 9, "began # 5 9");
        ten.then("began 9 4 8").answers("rank 0 0", 4);
        ten.then("began 9 4 8").answers("rank 0 1", 8);
    }

    private static void rankIsToldOfABadClaimToo() {
        barred("1").then("law 4 0").answers("rank 0 1", 280);
        FILED.then("pay 0 1000; bond 0 1").answers("rank 0 0", 0);
    }
}
