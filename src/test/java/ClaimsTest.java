/** Promises 13 to 20: the law, claims. */
final class ClaimsTest {
    private static final int LEAST = Integer.MIN_VALUE;
    private static final int MOST = Integer.MAX_VALUE;

    public static void main(String[] args) {
        law();
        file();
        sue();
        bond();
        judgeAndBarWantDaysFromFilingOn();
        barOfDegree();
        barOfNotice();
        barOfNoticeIsNotForDegreeOne();
        barOfFiling();
        barOfSuit();
        barOfOpen();
        sureBarsComeAheadOfThoseThatMayBe();
        worth();
        worthOfSeveralClaimsOfOneContract();
        worthCapped();
        worthOnADay();
        rank();
        rankOfFirstSpade();
        Due.end();
    }

    private static void law() {
        LienTower x = new LienTower();
        int[] least = {0, 0, 0, 1, 0, 0};
        int[] most = {365, 365, 1000, 9, 2, 1};
        int[] atFirst = {20, 90, 180, 3, 1, 0};
        for (int what = 0; what < 6; what++) {
            Due.is(x.law(what, least[what] - 1), Due.BEYOND);
            Due.is(x.law(what, most[what] + 1), Due.BEYOND);
            Due.is(x.law(what, LEAST), Due.BEYOND);
            Due.is(x.law(what, MOST), Due.BEYOND);
            Due.is(x.law(what, least[what]), atFirst[what]);
            Due.is(x.law(what, most[what]), least[what]);
            Due.is(x.law(what, most[what]), most[what]);
        }
        Due.is(x.law(-1, 1), Due.BEYOND);
        Due.is(x.law(6, 1), Due.BEYOND);
        Due.is(x.law(LEAST, 1), Due.BEYOND);
        Due.is(x.law(MOST, 1), Due.BEYOND);
    }

    private static void file() {
        LienTower x = Towers.chain(2);
        x.began(0, 0, 0);
        Due.is(x.file(-1, 1), Due.BEYOND);
        Due.is(x.file(2, 1), Due.BEYOND);
        Due.is(x.file(0, 0), Due.BEYOND);
        Due.is(x.file(0, 1000001), Due.BEYOND);
        Due.is(x.file(1, 0), Due.BEYOND);
        Due.is(x.file(1, 1), Due.STATE);
        Due.is(x.count(2), 0);
        Due.is(x.file(0, 1000000), 0);
        for (int i = 1; i < 16; i++) {
            Due.is(x.file(0, 1), i);
        }
        Due.is(x.file(0, 1), Due.FULL);
        Due.is(x.file(1, 1), Due.STATE);
        Due.is(x.file(0, 0), Due.BEYOND);
        Due.is(x.count(2), 16);
    }

    private static void sue() {
        LienTower x = Towers.row(100);
        Due.is(x.sue(0), Due.BEYOND);
        x.file(0, 50);
        x.file(0, 50);
        Due.is(x.sue(2), Due.BEYOND);
        Due.is(x.sue(-1), Due.BEYOND);
        Due.is(x.sue(0), 1);
        Due.is(x.sue(0), Due.STATE);
        x.day(5);
        Due.is(x.sue(0), Due.STATE);
        Due.is(x.sue(1), 1);
        Due.is(x.sue(1), Due.STATE);
    }

    private static void bond() {
        LienTower x = Towers.row(100);
        Due.is(x.bond(0, 1), Due.BEYOND);
        x.file(0, 50);
        x.file(0, 50);
        Due.is(x.bond(0, 2), Due.BEYOND);
        Due.is(x.bond(0, -1), Due.BEYOND);
        Due.is(x.bond(2, 0), Due.BEYOND);
        Due.is(x.bond(-1, 0), Due.BEYOND);
        Due.is(x.bond(0, 0), 0);
        Due.is(x.bond(0, 1), 0);
        Due.is(x.bond(1, 0), 0);
        Due.is(x.bond(0, 1), 1);
        Due.is(x.bond(0, 0), 1);
        Due.is(x.bond(0, 1), 0);
    }

    private static void judgeAndBarWantDaysFromFilingOn() {
        LienTower x = Towers.row(100);
        x.day(40);
        x.file(0, 50);
        Due.is(x.judge(0, 39), Due.BEYOND);
        Due.is(x.bar(0, 39), Due.BEYOND);
        Due.is(x.judge(0, 40), 2);
        Due.is(x.bar(0, 40), 0);
        Due.is(x.judge(0, 5000), 0);
        Due.is(x.bar(0, 5000), 4);
        Due.is(x.judge(0, 5001), Due.BEYOND);
        Due.is(x.bar(0, 5001), Due.BEYOND);
        Due.is(x.judge(1, 40), Due.BEYOND);
        Due.is(x.bar(1, 40), Due.BEYOND);
        Due.is(x.judge(-1, 40), Due.BEYOND);
        Due.is(x.bar(-1, 40), Due.BEYOND);
        Due.is(x.judge(0, LEAST), Due.BEYOND);
        Due.is(x.bar(MOST, MOST), Due.BEYOND);
    }

    private static void barOfDegree() {
        LienTower x = Towers.begunChain(4, 10);
        for (int i = 0; i < 4; i++) {
            x.file(i, 5);
        }
        int[] bars = {0, 0, 0, 1};
        for (int i = 0; i < 4; i++) {
            Due.is(x.bar(i, 10), bars[i]);
            Due.is(x.judge(i, 10), bars[i] == 0 ? 2 : 0);
        }
        x.law(3, 4);
        Due.is(x.bar(3, 10), 0);
        x.law(3, 1);
        Due.is(x.bar(0, 10), 0);
        Due.is(x.bar(1, 10), 1);
    }

    private static void barOfNotice() {
        LienTower x = Towers.chain(2);
        x.day(60);
        x.began(1, 10, 40);
        x.file(1, 5);
        Due.is(x.bar(0, 60), 2);
        Due.is(x.judge(0, 60), 0);
        x.notice(1);
        Due.is(x.bar(0, 60), 12);
        Due.is(x.judge(0, 60), 1);
        x.law(0, 19);
        Due.is(x.bar(0, 60), 2);
        Due.is(x.judge(0, 60), 0);
        x.law(0, 49);
        Due.is(x.bar(0, 60), 12);
        x.law(0, 50);
        Due.is(x.bar(0, 60), 0);
        Due.is(x.judge(0, 60), 2);
        x.law(0, 20);
        x.began(1, 39, 39);
        Due.is(x.bar(0, 60), 2);
        x.began(1, 39, 40);
        Due.is(x.bar(0, 60), 12);
        x.began(1, 40, 40);
        Due.is(x.bar(0, 60), 0);
    }

    private static void barOfNoticeIsNotForDegreeOne() {
        LienTower x = Towers.row(100);
        x.day(100);
        x.file(0, 5);
        Due.is(x.bar(0, 100), 0);
        x.notice(0);
        Due.is(x.bar(0, 100), 0);
        Due.is(x.judge(0, 100), 2);
    }

    private static void barOfFiling() {
        LienTower x = Towers.row(100);
        x.day(200);
        x.file(0, 5);
        Due.is(x.bar(0, 200), 0);
        x.ended(0, 109, 109);
        Due.is(x.bar(0, 200), 3);
        Due.is(x.judge(0, 200), 0);
        x.ended(0, 109, 110);
        Due.is(x.bar(0, 200), 13);
        Due.is(x.judge(0, 200), 1);
        x.ended(0, 110, 110);
        Due.is(x.bar(0, 200), 0);
        x.law(1, 89);
        Due.is(x.bar(0, 200), 3);
        x.law(1, 0);
        x.ended(0, 200, 200);
        Due.is(x.bar(0, 200), 0);
    }

    private static void barOfSuit() {
        LienTower x = Towers.row(100);
        x.day(10);
        x.file(0, 5);
        x.file(0, 5);
        x.file(0, 5);
        Due.is(x.bar(0, 190), 0);
        Due.is(x.bar(0, 191), 4);
        Due.is(x.judge(0, 190), 2);
        Due.is(x.judge(0, 191), 0);
        x.day(190);
        x.sue(0);
        x.day(191);
        x.sue(1);
        Due.is(x.bar(0, 5000), 0);
        Due.is(x.bar(1, 190), 0);
        Due.is(x.bar(1, 191), 4);
        Due.is(x.bar(2, 191), 4);
        x.law(2, 181);
        Due.is(x.bar(1, 5000), 0);
        Due.is(x.bar(2, 191), 0);
        Due.is(x.bar(2, 192), 4);
        x.law(2, 0);
        Due.is(x.bar(0, 10), 0);
        Due.is(x.bar(0, 11), 4);
        x.day(300);
        x.file(0, 5);
        x.sue(3);
        Due.is(x.bar(3, 5000), 0);
    }

    private static void barOfOpen() {
        LienTower x = Towers.row(100, 100, 100);
        x.file(0, 5);
        x.file(1, 5);
        x.file(2, 5);
        x.pay(0, 99);
        x.waive(1, 99, 0);
        x.waive(2, 100, 1);
        Due.is(x.bar(0, 0), 0);
        Due.is(x.bar(1, 0), 0);
        Due.is(x.bar(2, 0), 0);
        x.pay(0, 1);
        x.waive(1, 100, 0);
        Due.is(x.bar(0, 0), 5);
        Due.is(x.bar(1, 0), 5);
        Due.is(x.judge(1, 0), 0);
        x.extra(0, 1);
        Due.is(x.bar(0, 0), 0);
        x.waive(1, 1000000, 0);
        x.extra(1, 50);
        Due.is(x.bar(1, 0), 5);
    }

    /** Takes the bars away one by one, the first of them first. */
    private static void sureBarsComeAheadOfThoseThatMayBe() {
        LienTower x = Towers.chain(2);
        x.day(300);
        x.began(1, 0, 280);
        x.ended(1, 100, 100);
        x.file(1, 5);
        x.pay(1, 1000);
        x.law(3, 1);
        Due.is(x.bar(0, 481), 1);
        x.law(3, 2);
        Due.is(x.bar(0, 481), 2);
        x.notice(1);
        Due.is(x.bar(0, 481), 3);
        x.ended(1, 100, 250);
        Due.is(x.bar(0, 481), 4);
        Due.is(x.bar(0, 480), 5);
        Due.is(x.judge(0, 480), 0);
        x.extra(1, 1);
        Due.is(x.bar(0, 480), 12);
        Due.is(x.judge(0, 480), 1);
        x.law(0, 300);
        Due.is(x.bar(0, 480), 13);
        Due.is(x.judge(0, 480), 1);
        x.ended(1, 250, 250);
        Due.is(x.bar(0, 480), 0);
        Due.is(x.judge(0, 480), 2);
    }

    private static void worth() {
        LienTower x = Towers.row(100, 100);
        x.file(0, 60);
        x.file(1, 1000);
        Due.is(x.worth(2, 0), Due.BEYOND);
        Due.is(x.worth(-1, 0), Due.BEYOND);
        Due.is(x.worth(0, -1), Due.BEYOND);
        Due.is(x.worth(0, 5001), Due.BEYOND);
        Due.is(x.worth(0, 0), 60);
        Due.is(x.worth(1, 0), 100);
        x.pay(0, 39);
        Due.is(x.worth(0, 0), 60);
        x.pay(0, 2);
        Due.is(x.worth(0, 0), 59);
        x.waive(1, 70, 0);
        Due.is(x.worth(1, 0), 30);
        Due.is(x.worth(1, 180), 30);
        Due.is(x.worth(1, 181), 0);
        Due.is(x.worth(1, 5000), 0);
        x.bond(1, 1);
        Due.is(x.worth(1, 0), 30);
    }

    private static void worthOfSeveralClaimsOfOneContract() {
        LienTower x = Towers.row(100, 500);
        x.file(0, 30);
        x.file(1, 400);
        x.file(0, 50);
        x.file(0, 40);
        x.file(0, 10);
        int[] due = {30, 400, 50, 20, 0};
        for (int i = 0; i < due.length; i++) {
            Due.is(x.worth(i, 0), due[i]);
        }
        // A bonded claim still has its part of the bound; a bad one has none.
        x.bond(0, 1);
        Due.is(x.worth(2, 0), 50);
        Due.is(x.worth(3, 0), 20);
        x.sue(2);
        x.sue(3);
        x.sue(4);
        int[] dueLater = {0, 0, 50, 40, 10};
        for (int i = 0; i < dueLater.length; i++) {
            Due.is(x.worth(i, 181), dueLater[i]);
        }
        // One that only may be barred has its part too.
        LienTower y = Towers.row(100);
        y.day(95);
        y.file(0, 70);
        y.ended(0, 0, 20);
        y.file(0, 70);
        Due.is(y.judge(0, 95), 1);
        Due.is(y.worth(0, 95), 70);
        Due.is(y.worth(1, 95), 30);
    }

    private static void worthCapped() {
        LienTower x = Towers.begunChain(3, 0);
        x.file(2, 900);
        x.file(2, 900);
        x.file(0, 900);
        x.pay(0, 600);
        x.pay(1, 500);
        Due.is(x.worth(0, 0), 900);
        Due.is(x.worth(1, 0), 100);
        Due.is(x.worth(2, 0), 400);
        x.law(5, 1);
        Due.is(x.worth(0, 0), 400);
        Due.is(x.worth(1, 0), 0);
        Due.is(x.worth(2, 0), 400);
        x.pay(1, 300);
        Due.is(x.worth(0, 0), 200);
        x.extra(1, 250);
        Due.is(x.worth(0, 0), 400);
        // OWING of the uppers counts, not what they waived.
        x.waive(0, 1000, 0);
        x.waive(1, 1000, 0);
        Due.is(x.worth(0, 0), 400);
        x.pay(0, 400);
        Due.is(x.worth(0, 0), 0);
        Due.is(x.judge(0, 0), 2);
    }

    private static void worthOnADay() {
        LienTower x = Towers.row(100);
        x.day(10);
        x.file(0, 60);
        x.day(20);
        x.file(0, 60);
        Due.is(x.worth(0, 9), 0);
        Due.is(x.worth(0, 10), 60);
        Due.is(x.worth(1, 19), 0);
        Due.is(x.worth(1, 20), 40);
        Due.is(x.worth(0, 20), 60);
        Due.is(x.worth(0, 0), 0);
        Due.is(x.worth(1, 191), 60);
        Due.is(x.worth(0, 191), 0);
    }

    private static void rank() {
        LienTower x = Towers.chain(2);
        x.day(100);
        x.began(0, 30, 60);
        x.began(1, 40, 50);
        x.file(0, 1);
        x.day(120);
        x.file(1, 1);
        Due.is(x.rank(2, 0), Due.BEYOND);
        Due.is(x.rank(-1, 0), Due.BEYOND);
        Due.is(x.rank(0, -1), Due.BEYOND);
        Due.is(x.rank(0, 2), Due.BEYOND);
        int[][] due = {{30, 60, 40, 50}, {30, 50, 30, 50}, {100, 100, 120, 120}};
        for (int relates = 0; relates <= 2; relates++) {
            x.law(4, relates);
            for (int i = 0; i < 4; i++) {
                Due.is(x.rank(i / 2, i % 2), due[relates][i]);
            }
        }
    }

    private static void rankOfFirstSpade() {
        LienTower x = Towers.chain(3);
        x.day(100);
        x.began(1, 40, 50);
        x.file(1, 1);
        Due.is(x.rank(0, 0), 40);
        Due.is(x.rank(0, 1), 50);
        x.began(2, 41, 49);
        Due.is(x.rank(0, 0), 40);
        Due.is(x.rank(0, 1), 49);
        x.began(0, 0, 100);
        Due.is(x.rank(0, 0), 0);
        Due.is(x.rank(0, 1), 49);
        x.began(0, 0, 0);
        Due.is(x.rank(0, 1), 0);
    }
}
