/** A tower with as much of everything as there may be: every call still answers. */
final class FullTowerTest {
    public static void main(String[] args) {
        LienTower x = fullTower();
        int[] counts = {12, 10, 16, 6, 20, 40, 40, 30, 16, 16};
        for (int what = 0; what < counts.length; what++) {
            Due.same("what " + what, x.count(what), counts[what]);
        }
        everyThingIsFull(x);
        claims(x);
        sales(x);
        draws(x);
        accounts(x);
        Due.end();
    }

    /** Parties: 1 lends, 2 is paid 10 by THE OWNER, and pays 3 .. 11 each 10 * their number. */
    private static LienTower fullTower() {
        LienTower x = new LienTower();
        x.party(1);
        for (int i = 2; i < 12; i++) {
            x.party(i % 3 == 2 ? 2 : 3);
            x.contract(i == 2 ? 0 : 2, i, 10 * i);
        }
        x.day(30);
        for (int i = 0; i < 10; i++) {
            x.began(i, 20 - i, 30 - i);
            x.notice(i);
        }
        for (int i = 0; i < 16; i++) {
            x.file(i % 10, 100);
            x.tell(0);
        }
        for (int i = 0; i < 6; i++) {
            x.loan(1, 100 + i);
        }
        for (int i = 0; i < 20; i++) {
            x.waive(i / 2, 2 * i, i % 2);
        }
        for (int i = 0; i < 40; i++) {
            x.in(2 + i % 10, i < 10 ? -1 : i % 10, 4);
        }
        for (int i = 0; i < 40; i++) {
            x.out(2 + i % 10, 3);
        }
        return x;
    }

    private static void everyThingIsFull(LienTower x) {
        Due.is(x.party(0), Due.FULL);
        Due.is(x.file(0, 1), Due.FULL);
        Due.is(x.loan(1, 1), Due.FULL);
        Due.is(x.waive(0, 1, 0), Due.FULL);
        Due.is(x.in(2, 0, 1), Due.FULL);
        Due.is(x.out(11, 1), Due.FULL);
        Due.is(x.tell(1), Due.FULL);
        Due.is(x.found(4), 7);
    }

    /** OPEN of contract i is 20 + 10 i less 4 i; all of it is the first claim's worth. */
    private static void claims(LienTower x) {
        for (int i = 0; i < 10; i++) {
            Due.is(x.of(i, 6), 20 + 6 * i);
            Due.is(x.worth(i, 30), 20 + 6 * i);
            Due.is(x.judge(i, 30), 2);
        }
        for (int i = 10; i < 16; i++) {
            Due.is(x.worth(i, 30), 0);
        }
        x.law(5, 1);
        Due.is(x.worth(9, 30), 20);
        Due.is(x.worth(0, 30), 20);
        x.law(5, 0);
        Due.is(x.rank(15, 0), 11);
        Due.is(x.rank(15, 1), 21);
    }

    private static void sales(LienTower x) {
        Due.is(x.sale(10000000, 0, 2, 0), 10000000 - 470 - 615);
        Due.is(x.sale(470, 1, 1, 9), 74);
        Due.is(x.sale(470, 1, 0, 5), 0);
        Due.is(x.sale(471, 0, 0, 0), 1);
        Due.is(x.sale(1085, 0, 0, 5), 105);
        Due.is(x.sale(1085, 0, 1, 15), 0);
        Due.is(x.sale(5, 0, 1, 0), 1);
        x.law(4, 2);
        Due.is(x.sale(1084, 0, 0, 5), 105);
        Due.is(x.sale(1084, 0, 1, 9), 73);
        Due.is(x.sale(1084, 0, 1, 10), 0);
        Due.is(x.check(0), 0);
        x.law(4, 1);
    }

    private static void draws(LienTower x) {
        Due.is(x.twice(0), 450 - 20);
        Due.is(x.sign(0, 0, 0), 1022);
        Due.is(x.sign(0, 26, 0), 1020);
        Due.is(x.sign(0, 376, 0), 1 << 9);
        Due.is(x.sign(0, 377, 1), 1);
        Due.is(x.sign(0, 450, 0), 0);
    }

    /** Each builder had 4 of its own and three times 4; four times 3 went out. */
    private static void accounts(LienTower x) {
        for (int i = 0; i < 10; i++) {
            Due.is(x.held(2 + i, -1, 0), 0);
            Due.is(x.held(2 + i, i, 0), 4);
            Due.is(x.held(2 + i, -1, 1), 4);
            Due.is(x.held(2 + i, i, 1), 0);
            Due.is(x.held(2 + i, i, 2), 4);
            Due.is(x.trace(30 + i, 0), 4);
            Due.is(x.trace(i, 1), 4);
        }
        Due.is(x.trace(40, 0), Due.BEYOND);
    }
}
