/** Promises 29 to 32: what is told. */
final class ToldTest {
    public static void main(String[] args) {
        tell();
        check();
        checkComparesEachNumberThatWaits();
        checkIsByTheEarliestRanks();
        count();
        found();
        findingsChangeNothingElse();
        Due.end();
    }

    private static void tell() {
        LienTower x = new LienTower();
        for (int i = 1; i <= 16; i++) {
            Due.is(x.tell(i % 2 == 0 ? Integer.MIN_VALUE : Integer.MAX_VALUE), i);
            Due.is(x.count(8), i);
        }
        Due.is(x.tell(0), Due.FULL);
        Due.is(x.count(8), 16);
        Due.is(x.check(0), 1);
        Due.is(x.tell(0), 1);
    }

    private static void tellAll(LienTower x, int... numbers) {
        for (int v : numbers) {
            x.tell(v);
        }
    }

    private static void check() {
        LienTower x = Towers.row(100, 100);
        Due.is(x.check(5), 0);
        tellAll(x, 0);
        Due.is(x.check(5), 1);
        Due.is(x.count(8), 0);
        x.file(0, 100);
        x.file(1, 50);
        tellAll(x, 100, 50);
        Due.is(x.check(150), 0);
        Due.is(x.count(8), 0);
        Due.is(x.check(150), 0);
        tellAll(x, 100, 50);
        Due.is(x.check(-1), Due.BEYOND);
        Due.is(x.count(8), 0);
        tellAll(x, 100, 50);
        Due.is(x.check(10000001), Due.BEYOND);
        Due.is(x.count(8), 0);
        tellAll(x, 100, 50);
        Due.is(x.check(10000000), 0);
        tellAll(x, 0, 0);
        Due.is(x.check(0), 0);
        tellAll(x, 10, 5);
        Due.is(x.check(15), 0);
    }

    private static void checkComparesEachNumberThatWaits() {
        LienTower x = Towers.row(100, 100, 100);
        x.file(0, 10);
        x.file(1, 20);
        x.file(2, 30);
        tellAll(x, 10);
        Due.is(x.check(60), 0);
        tellAll(x, 10, 20);
        Due.is(x.check(60), 0);
        tellAll(x, 11, 20, 30);
        Due.is(x.check(60), 1);
        tellAll(x, 10, 21, 31);
        Due.is(x.check(60), 2);
        tellAll(x, 10, 20, 31);
        Due.is(x.check(60), 3);
        tellAll(x, 10, 20, 30, 0);
        Due.is(x.check(60), 4);
        tellAll(x, 10, 20, 31, 0);
        Due.is(x.check(60), 3);
        Due.is(x.count(8), 0);
        x.bond(1, 1);
        tellAll(x, 10, 0, 30);
        Due.is(x.check(60), 0);

        LienTower y = Towers.row(100);
        for (int i = 0; i < 16; i++) {
            y.file(0, 5);
            y.tell(5);
        }
        Due.is(y.check(80), 0);
    }

    private static void checkIsByTheEarliestRanks() {
        LienTower x = Towers.row(100);
        int lender = x.party(1);
        x.day(95);
        x.loan(lender, 60);
        x.began(0, 0, 95);
        x.ended(0, 0, 95);
        x.file(0, 100);
        Due.is(x.judge(0, 95), 1);
        x.tell(100);
        Due.is(x.check(120), 0);
        x.tell(0);
        Due.is(x.check(120), 1);
        x.day(276);
        x.tell(0);
        Due.is(x.check(120), 0);
    }

    private static void count() {
        LienTower x = Towers.begunChain(2, 3);
        int lender = x.party(1);
        x.file(0, 5);
        x.file(1, 5);
        x.file(0, 5);
        x.loan(lender, 5);
        for (int i = 0; i < 4; i++) {
            x.waive(0, 5, 0);
        }
        for (int i = 0; i < 5; i++) {
            x.in(1, 0, 5);
        }
        for (int i = 0; i < 6; i++) {
            x.out(1, 1);
        }
        x.day(9);
        for (int i = 0; i < 7; i++) {
            x.tell(5);
        }
        int[] due = {4, 2, 3, 1, 4, 5, 6, 9, 7, 3};
        for (int what = 0; what < due.length; what++) {
            Due.same("what " + what, x.count(what), due[what]);
        }
        Due.is(x.count(-1), Due.BEYOND);
        Due.is(x.count(10), Due.BEYOND);
        Due.is(x.count(Integer.MIN_VALUE), Due.BEYOND);
        x.bond(0, 1);
        Due.is(x.count(9), 3);
        x.pay(1, 1000);
        Due.is(x.count(9), 2);
        x.day(99);
        x.ended(0, 3, 9);
        x.file(0, 5);
        Due.is(x.judge(3, 99), 1);
        Due.is(x.count(9), 2);
        x.sue(2);
        x.day(184);
        Due.is(x.count(9), 1);
    }

    private static void found() {
        LienTower x = new LienTower();
        for (int k = 1; k <= 5; k++) {
            Due.is(x.found(k), 0);
        }
        Due.is(x.found(0), Due.BEYOND);
        Due.is(x.found(6), Due.BEYOND);
        Due.is(x.found(-1), Due.BEYOND);
        Due.is(x.found(Integer.MIN_VALUE), Due.BEYOND);
        Due.is(x.found(Integer.MAX_VALUE), Due.BEYOND);
        Due.is(x.found(1), 5);
        x.as(0, 1);
        x.as(0, 2);
        x.contract(0, 0, 1);
        Due.is(x.found(5), 3);
        Due.is(x.found(1), 5);
        x.party(2);
        x.contract(1, 1, 1);
        Due.is(x.found(3), 1);
        for (int i = 0; i < 18; i++) {
            x.tell(i);
        }
        Due.is(x.found(4), 2);
        x.check(-1);
        x.count(10);
        Due.is(x.found(1), 7);
        Due.is(x.found(2), 0);
        Due.is(x.found(3), 1);
        Due.is(x.found(5), 3);
    }

    private static void findingsChangeNothingElse() {
        LienTower x = Towers.begunChain(2, 10);
        x.file(0, 100);
        x.in(1, 0, 30);
        x.tell(4);
        int before = x.found(1);
        x.party(9);
        x.extra(0, 0);
        x.began(0, 5, 11);
        x.ended(0, 5, 9);
        x.pay(0, 0);
        x.waive(0, -1, 0);
        x.day(9);
        x.law(0, 366);
        x.file(0, 0);
        x.sue(1);
        x.bond(0, 2);
        x.loan(0, 0);
        x.in(1, 0, 0);
        x.out(1, 0);
        Due.is(x.found(1), before + 14);
        x.out(1, 31);
        x.pay(0, 1001);
        x.notice(0);
        x.loan(0, 1);
        int[] counts = {3, 2, 1, 0, 0, 1, 0, 10, 1, 1};
        for (int what = 0; what < counts.length; what++) {
            Due.same("what " + what, x.count(what), counts[what]);
        }
        int[] details = {0, 1, 1000, 0, 1000, 0, 1000, 1, -1, 10, 10, 10, -1, -1};
        for (int what = 0; what < details.length; what++) {
            Due.same("what " + what, x.of(0, what), details[what]);
        }
        Due.is(x.law(0, 20), 20);
        Due.is(x.bond(0, 0), 0);
        Due.is(x.trace(0, 1), 30);
    }
}
