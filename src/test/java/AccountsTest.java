/** Promises 25 to 28: accounts. */
final class AccountsTest {
    private static final int OWN = -1;

    public static void main(String[] args) {
        in();
        inFindingsInOrder();
        out();
        outFindingsInOrder();
        traceByThreeRules();
        laterInsDoNotPayEarlierOuts();
        ownCoinGoesInTheOrderInWhichItCame();
        accountsAreApart();
        traceFindings();
        held();
        Due.end();
    }

    private static void in() {
        LienTower x = Towers.chain(2);
        int supplier = x.party(3);
        Due.is(x.in(1, 0, 1), 0);
        Due.is(x.in(1, 1, 100000), 1);
        Due.is(x.in(1, OWN, 5), 2);
        Due.is(x.in(2, 1, 6), 3);
        Due.is(x.in(supplier, OWN, 7), 4);
        for (int rule = 0; rule < 3; rule++) {
            int[] left = {1, 100000, 5, 6, 7};
            for (int i = 0; i < left.length; i++) {
                Due.is(x.trace(i, rule), left[i]);
            }
        }
        Due.is(x.count(5), 5);
        Due.is(x.out(supplier, 3), 4);
    }

    private static void inFindingsInOrder() {
        LienTower x = Towers.chain(2);
        int lender = x.party(1);
        int plain = x.party(0);
        Due.is(x.in(5, OWN, 1), Due.BEYOND);
        Due.is(x.in(-1, OWN, 1), Due.BEYOND);
        Due.is(x.in(1, 2, 1), Due.BEYOND);
        Due.is(x.in(1, -2, 1), Due.BEYOND);
        Due.is(x.in(1, 0, 0), Due.BEYOND);
        Due.is(x.in(1, 0, 100001), Due.BEYOND);
        Due.is(x.in(lender, 0, 0), Due.BEYOND);
        Due.is(x.in(lender, 0, 1), Due.KIND);
        Due.is(x.in(plain, OWN, 1), Due.KIND);
        Due.is(x.in(0, 0, 1), Due.KIND);
        Due.is(x.in(2, 0, 1), Due.STATE);
        Due.is(x.count(5), 0);
        for (int i = 0; i < 40; i++) {
            Due.is(x.in(1 + i % 2, 1, 1), i);
        }
        Due.is(x.in(1, 0, 1), Due.FULL);
        Due.is(x.in(1, OWN, 1), Due.FULL);
        Due.is(x.in(2, 0, 1), Due.STATE);
        Due.is(x.in(0, 0, 1), Due.KIND);
        Due.is(x.in(1, 0, 0), Due.BEYOND);
        Due.is(x.count(5), 40);
        Due.is(x.out(1, 20), 0);
        Due.is(x.trace(38, 0), 0);
        Due.is(x.trace(39, 0), 1);
    }

    private static void out() {
        LienTower x = Towers.chain(2);
        for (int i = 0; i < 11; i++) {
            x.in(1, OWN, 100000);
        }
        Due.is(x.out(1, 1000000), 100000);
        Due.is(x.out(1, 1), 99999);
        Due.is(x.out(1, 99999), 0);
        Due.is(x.out(1, 1), Due.STATE);
        Due.is(x.count(6), 3);
        Due.is(x.in(1, OWN, 9), 11);
        Due.is(x.out(1, 10), Due.STATE);
        Due.is(x.out(1, 9), 0);
    }

    private static void outFindingsInOrder() {
        LienTower x = Towers.chain(2);
        int lender = x.party(1);
        x.in(1, OWN, 41);
        Due.is(x.out(4, 1), Due.BEYOND);
        Due.is(x.out(-1, 1), Due.BEYOND);
        Due.is(x.out(1, 0), Due.BEYOND);
        Due.is(x.out(1, 1000001), Due.BEYOND);
        Due.is(x.out(lender, 0), Due.BEYOND);
        Due.is(x.out(lender, 1), Due.KIND);
        Due.is(x.out(0, 1), Due.KIND);
        Due.is(x.out(2, 1), Due.STATE);
        Due.is(x.out(1, 42), Due.STATE);
        Due.is(x.count(6), 0);
        for (int i = 1; i <= 40; i++) {
            Due.is(x.out(1, 1), 41 - i);
        }
        Due.is(x.out(1, 1), Due.FULL);
        Due.is(x.out(1, 2), Due.STATE);
        Due.is(x.out(lender, 1), Due.KIND);
        Due.is(x.out(1, 0), Due.BEYOND);
        Due.is(x.count(6), 40);
        Due.is(x.trace(0, 0), 1);
    }

    private static void dueLeft(LienTower x, int rule, int... left) {
        for (int i = 0; i < left.length; i++) {
            Due.same("in " + i + " by rule " + rule, x.trace(i, rule), left[i]);
        }
    }

    private static void traceByThreeRules() {
        LienTower x = Towers.chain(2);
        x.in(1, 0, 10);
        x.in(1, OWN, 20);
        x.in(1, 1, 30);
        x.in(1, OWN, 40);
        x.in(1, 0, 50);
        Due.is(x.out(1, 25), 125);
        dueLeft(x, 0, 0, 5, 30, 40, 50);
        dueLeft(x, 1, 10, 20, 30, 40, 25);
        dueLeft(x, 2, 10, 0, 30, 35, 50);
        Due.is(x.out(1, 50), 75);
        dueLeft(x, 0, 0, 0, 0, 25, 50);
        dueLeft(x, 1, 10, 20, 30, 15, 0);
        dueLeft(x, 2, 0, 0, 25, 0, 50);
        Due.is(x.out(1, 75), 0);
        for (int rule = 0; rule < 3; rule++) {
            dueLeft(x, rule, 0, 0, 0, 0, 0);
        }
    }

    private static void laterInsDoNotPayEarlierOuts() {
        LienTower x = Towers.chain(1);
        x.in(1, 0, 10);
        x.out(1, 4);
        x.in(1, OWN, 5);
        dueLeft(x, 0, 6, 5);
        dueLeft(x, 1, 6, 5);
        dueLeft(x, 2, 6, 5);
        x.out(1, 7);
        dueLeft(x, 0, 0, 4);
        dueLeft(x, 1, 4, 0);
        dueLeft(x, 2, 4, 0);
        x.in(1, 0, 3);
        dueLeft(x, 1, 4, 0, 3);
        x.out(1, 6);
        dueLeft(x, 0, 0, 0, 1);
        dueLeft(x, 1, 1, 0, 0);
        dueLeft(x, 2, 0, 0, 1);
    }

    private static void ownCoinGoesInTheOrderInWhichItCame() {
        LienTower x = Towers.chain(1);
        x.in(1, OWN, 5);
        x.in(1, 0, 5);
        x.in(1, OWN, 5);
        x.out(1, 3);
        dueLeft(x, 2, 2, 5, 5);
        x.out(1, 3);
        dueLeft(x, 2, 0, 5, 4);
        x.out(1, 6);
        dueLeft(x, 2, 0, 3, 0);
    }

    private static void accountsAreApart() {
        LienTower x = Towers.chain(2);
        x.in(2, 1, 10);
        x.in(1, 1, 10);
        x.in(2, OWN, 10);
        x.in(1, OWN, 10);
        Due.is(x.out(1, 13), 7);
        dueLeft(x, 0, 10, 0, 10, 7);
        dueLeft(x, 1, 10, 7, 10, 0);
        dueLeft(x, 2, 10, 7, 10, 0);
        Due.is(x.out(2, 21), Due.STATE);
        Due.is(x.out(2, 20), 0);
        dueLeft(x, 0, 0, 0, 0, 7);
    }

    private static void traceFindings() {
        LienTower x = Towers.chain(1);
        Due.is(x.trace(0, 0), Due.BEYOND);
        x.in(1, OWN, 8);
        Due.is(x.trace(0, 2), 8);
        Due.is(x.trace(0, 3), Due.BEYOND);
        Due.is(x.trace(0, -1), Due.BEYOND);
        Due.is(x.trace(1, 0), Due.BEYOND);
        Due.is(x.trace(-1, 0), Due.BEYOND);
        Due.is(x.trace(Integer.MAX_VALUE, Integer.MIN_VALUE), Due.BEYOND);
    }

    private static void held() {
        LienTower x = Towers.chain(3);
        int lender = x.party(1);
        int supplier = x.party(3);
        x.in(1, 0, 10);
        x.in(1, OWN, 20);
        x.in(2, 1, 500);
        x.in(1, 0, 30);
        x.in(1, 1, 40);
        x.in(1, OWN, 50);
        x.out(1, 65);
        for (int rule = 0; rule < 3; rule++) {
            Due.is(x.held(1, 0, rule), new int[] {0, 40, 40}[rule]);
            Due.is(x.held(1, 1, rule), new int[] {35, 25, 40}[rule]);
            Due.is(x.held(1, OWN, rule), new int[] {50, 20, 5}[rule]);
            Due.is(x.held(2, 1, rule), 500);
            Due.is(x.held(2, OWN, rule), 0);
            Due.is(x.held(2, 0, rule), 0);
            Due.is(x.held(1, 2, rule), 0);
            Due.is(x.held(supplier, 0, rule), 0);
        }
        Due.is(x.held(6, 0, 0), Due.BEYOND);
        Due.is(x.held(-1, 0, 0), Due.BEYOND);
        Due.is(x.held(1, 3, 0), Due.BEYOND);
        Due.is(x.held(1, -2, 0), Due.BEYOND);
        Due.is(x.held(1, 0, 3), Due.BEYOND);
        Due.is(x.held(1, 0, -1), Due.BEYOND);
        Due.is(x.held(lender, 0, 3), Due.BEYOND);
        Due.is(x.held(lender, 0, 0), Due.KIND);
        Due.is(x.held(0, OWN, 0), Due.KIND);
    }
}
