/** Promises 1 to 12: parties and contracts. */
final class ContractsTest {
    private static final int LEAST = Integer.MIN_VALUE;
    private static final int MOST = Integer.MAX_VALUE;

    public static void main(String[] args) {
        newObject();
        party();
        as();
        contract();
        contractFindingsInOrder();
        extra();
        began();
        ended();
        notice();
        pay();
        waive();
        waiveIsFullForAllContractsTogether();
        of();
        degreesAndUppers();
        day();
        Due.end();
    }

    private static void newObject() {
        LienTower x = new LienTower();
        Due.is(x.count(0), 1);
        for (int what = 1; what <= 9; what++) {
            Due.is(x.count(what), 0);
        }
        Due.is(x.as(0, 0), 0);
        Due.is(x.as(0, 1), Due.KIND);
        Due.is(x.of(0, 0), Due.BEYOND);
        int[] lawsAtFirst = {20, 90, 180, 3, 1, 0};
        for (int what = 0; what < lawsAtFirst.length; what++) {
            Due.is(x.law(what, lawsAtFirst[what]), lawsAtFirst[what]);
        }
    }

    private static void party() {
        LienTower x = new LienTower();
        Due.is(x.party(-1), Due.BEYOND);
        Due.is(x.party(4), Due.BEYOND);
        Due.is(x.party(LEAST), Due.BEYOND);
        Due.is(x.party(MOST), Due.BEYOND);
        Due.is(x.count(0), 1);
        for (int i = 1; i <= 11; i++) {
            Due.is(x.party(i % 4), i);
        }
        Due.is(x.party(0), Due.FULL);
        Due.is(x.party(4), Due.BEYOND);
        Due.is(x.count(0), 12);
        for (int i = 1; i <= 11; i++) {
            Due.is(x.as(i, i % 4), 0);
        }
        Due.is(x.as(12, 0), Due.BEYOND);
    }

    private static void as() {
        LienTower x = new LienTower();
        for (int kind = 0; kind <= 3; kind++) {
            x.party(kind);
        }
        int no = Due.KIND;
        int[][] due = {{0, no, no, no}, {0, no, no, no}, {0, 0, no, no}, {0, no, 0, no}, {0, no, 0, 0}};
        for (int party = 0; party < due.length; party++) {
            for (int kind = 0; kind <= 3; kind++) {
                Due.is(x.as(party, kind), due[party][kind]);
            }
        }
        Due.is(x.as(-1, 0), Due.BEYOND);
        Due.is(x.as(5, 0), Due.BEYOND);
        Due.is(x.as(0, -1), Due.BEYOND);
        Due.is(x.as(0, 4), Due.BEYOND);
        Due.is(x.as(LEAST, LEAST), Due.BEYOND);
        x.contract(0, 3, 10);
        x.contract(3, 4, 10);
        Due.is(x.as(0, 0), 1);
        Due.is(x.as(3, 0), 1);
        Due.is(x.as(3, 2), 1);
        Due.is(x.as(4, 3), 0);
        int builder = x.party(2);
        Due.is(x.contract(3, builder, 10), 2);
        Due.is(x.as(3, 2), 2);
        Due.is(x.as(0, 0), 1);
    }

    private static void contract() {
        LienTower x = new LienTower();
        x.party(2);
        x.party(3);
        Due.is(x.contract(0, 1, 0), Due.BEYOND);
        Due.is(x.contract(0, 1, 100001), Due.BEYOND);
        Due.is(x.contract(0, 1, -1), Due.BEYOND);
        Due.is(x.contract(0, 1, LEAST), Due.BEYOND);
        Due.is(x.contract(0, 3, 1), Due.BEYOND);
        Due.is(x.contract(0, -1, 1), Due.BEYOND);
        Due.is(x.contract(3, 1, 1), Due.BEYOND);
        Due.is(x.contract(-1, 1, 1), Due.BEYOND);
        Due.is(x.contract(0, 1, 100000), 0);
        Due.is(x.contract(0, 2, 1), 1);
        Due.is(x.of(0, 2), 100000);
        Due.is(x.of(1, 2), 1);
        Due.is(x.count(1), 2);
    }

    private static void contractFindingsInOrder() {
        LienTower x = new LienTower();
        int lender = x.party(1);
        int plain = x.party(0);
        int paid = x.party(2);
        int unpaid = x.party(2);
        int supplier = x.party(3);
        Due.is(x.contract(lender, lender, 0), Due.BEYOND);
        Due.is(x.contract(0, lender, 1), Due.KIND);
        Due.is(x.contract(0, plain, 1), Due.KIND);
        Due.is(x.contract(0, 0, 1), Due.KIND);
        Due.is(x.contract(lender, unpaid, 1), Due.KIND);
        Due.is(x.contract(plain, unpaid, 1), Due.KIND);
        Due.is(x.contract(supplier, unpaid, 1), Due.KIND);
        Due.is(x.contract(supplier, supplier, 1), Due.KIND);
        Due.is(x.contract(unpaid, unpaid, 1), Due.STATE);
        Due.is(x.contract(unpaid, supplier, 1), Due.STATE);
        Due.is(x.count(1), 0);
        Due.is(x.contract(0, paid, 1), 0);
        Due.is(x.contract(paid, paid, 1), Due.STATE);
        Due.is(x.contract(0, paid, 1), Due.STATE);
        Due.is(x.contract(paid, supplier, 1), 1);
        Due.is(x.contract(supplier, unpaid, 1), Due.KIND);
        Due.is(x.contract(unpaid, paid, 1), Due.STATE);
        Due.is(x.count(1), 2);

        LienTower y = new LienTower();
        for (int i = 1; i <= 11; i++) {
            y.party(2);
        }
        for (int i = 1; i <= 10; i++) {
            Due.is(y.contract(i - 1, i, i), i - 1);
        }
        Due.is(y.contract(0, 11, 0), Due.BEYOND);
        Due.is(y.contract(11, 11, 1), Due.STATE);
        Due.is(y.contract(0, 1, 1), Due.STATE);
        Due.is(y.contract(0, 11, 1), Due.FULL);
        Due.is(y.count(1), 10);
        Due.is(y.of(9, 7), 10);
        Due.is(y.of(9, 8), 8);
        Due.is(y.of(10, 7), Due.BEYOND);
    }

    private static void extra() {
        LienTower x = Towers.chain(1);
        Due.is(x.extra(-1, 1), Due.BEYOND);
        Due.is(x.extra(1, 1), Due.BEYOND);
        Due.is(x.extra(0, 0), Due.BEYOND);
        Due.is(x.extra(0, -5), Due.BEYOND);
        Due.is(x.extra(0, 100001), Due.BEYOND);
        Due.is(x.extra(0, MOST), Due.BEYOND);
        Due.is(x.of(0, 2), 1000);
        Due.is(x.extra(0, 1), 1001);
        for (int i = 1; i <= 9; i++) {
            Due.is(x.extra(0, 100000), 1001 + 100000 * i);
        }
        Due.is(x.extra(0, 99000), Due.FULL);
        Due.is(x.extra(0, 98999), 1000000);
        Due.is(x.extra(0, 1), Due.FULL);
        Due.is(x.extra(0, 0), Due.BEYOND);
        Due.is(x.of(0, 2), 1000000);
    }

    private static void began() {
        LienTower x = Towers.chain(1);
        x.day(100);
        Due.is(x.began(1, 5, 5), Due.BEYOND);
        Due.is(x.began(-1, 5, 5), Due.BEYOND);
        Due.is(x.began(0, -1, 5), Due.BEYOND);
        Due.is(x.began(0, 6, 5), Due.BEYOND);
        Due.is(x.began(0, 100, 101), Due.BEYOND);
        Due.is(x.began(0, LEAST, MOST), Due.BEYOND);
        Due.is(x.of(0, 10), -1);
        Due.is(x.of(0, 11), -1);
        Due.is(x.began(0, 0, 100), 1);
        Due.is(x.began(0, 100, 100), 1);
        Due.is(x.of(0, 10), 100);
        Due.is(x.began(0, 40, 70), 1);
        Due.is(x.of(0, 10), 40);
        Due.is(x.of(0, 11), 70);
        Due.is(x.ended(0, 80, 90), 1);
        Due.is(x.began(0, 41, 71), Due.STATE);
        Due.is(x.began(0, 41, 101), Due.BEYOND);
        Due.is(x.of(0, 10), 40);
        Due.is(x.of(0, 11), 70);
    }

    private static void ended() {
        LienTower x = Towers.chain(2);
        x.day(100);
        Due.is(x.ended(0, 1, 101), Due.BEYOND);
        Due.is(x.ended(0, -1, 1), Due.BEYOND);
        Due.is(x.ended(0, 0, 0), Due.STATE);
        Due.is(x.began(0, 10, 30), 1);
        Due.is(x.ended(2, 40, 50), Due.BEYOND);
        Due.is(x.ended(-1, 40, 50), Due.BEYOND);
        Due.is(x.ended(0, 50, 49), Due.BEYOND);
        Due.is(x.ended(0, 50, 101), Due.BEYOND);
        Due.is(x.ended(0, 9, 50), Due.BEYOND);
        Due.is(x.ended(0, 9, 9), Due.BEYOND);
        Due.is(x.of(0, 12), -1);
        Due.is(x.of(0, 13), -1);
        Due.is(x.ended(0, 10, 10), 1);
        Due.is(x.ended(0, 20, 100), 1);
        Due.is(x.of(0, 12), 20);
        Due.is(x.of(0, 13), 100);
        Due.is(x.ended(0, 9, 100), Due.BEYOND);
        Due.is(x.of(0, 12), 20);
        Due.is(x.ended(1, 20, 20), Due.STATE);
    }

    private static void notice() {
        LienTower x = Towers.chain(2);
        Due.is(x.of(0, 9), -1);
        Due.is(x.notice(0), 1);
        Due.is(x.of(0, 9), 0);
        x.day(7);
        Due.is(x.notice(0), Due.STATE);
        Due.is(x.of(0, 9), 0);
        Due.is(x.notice(1), 1);
        Due.is(x.of(1, 9), 7);
        Due.is(x.notice(2), Due.BEYOND);
        Due.is(x.notice(-1), Due.BEYOND);
        Due.is(x.notice(LEAST), Due.BEYOND);
    }

    private static void pay() {
        LienTower x = Towers.chain(1);
        Due.is(x.pay(0, 0), Due.BEYOND);
        Due.is(x.pay(0, -1), Due.BEYOND);
        Due.is(x.pay(0, 100001), Due.BEYOND);
        Due.is(x.pay(1, 1), Due.BEYOND);
        Due.is(x.pay(-1, 1), Due.BEYOND);
        Due.is(x.pay(0, 1001), Due.STATE);
        Due.is(x.pay(0, 100000), Due.STATE);
        Due.is(x.pay(0, 1), 999);
        Due.is(x.pay(0, 1000), Due.STATE);
        Due.is(x.of(0, 3), 1);
        Due.is(x.of(0, 4), 999);
        Due.is(x.pay(0, 999), 0);
        Due.is(x.pay(0, 1), Due.STATE);
        Due.is(x.extra(0, 100000), 101000);
        Due.is(x.pay(0, 100000), 0);
        Due.is(x.of(0, 3), 101000);
    }

    private static void waive() {
        LienTower x = Towers.chain(2);
        Due.is(x.waive(2, 1, 0), Due.BEYOND);
        Due.is(x.waive(-1, 1, 0), Due.BEYOND);
        Due.is(x.waive(0, -1, 0), Due.BEYOND);
        Due.is(x.waive(0, 1000001, 0), Due.BEYOND);
        Due.is(x.waive(0, 1, -1), Due.BEYOND);
        Due.is(x.waive(0, 1, 2), Due.BEYOND);
        Due.is(x.count(4), 0);
        Due.is(x.waive(0, 0, 1), 0);
        Due.is(x.waive(0, 300, 0), 300);
        Due.is(x.waive(0, 200, 0), 300);
        Due.is(x.waive(0, 500, 1), 300);
        Due.is(x.waive(0, 400, 1), 300);
        Due.is(x.of(0, 6), 700);
        x.pay(0, 399);
        Due.is(x.of(0, 5), 300);
        Due.is(x.of(0, 6), 601);
        x.pay(0, 1);
        Due.is(x.of(0, 5), 400);
        Due.is(x.waive(0, 400, 1), 400);
        Due.is(x.waive(0, 350, 1), 400);
        x.pay(0, 100);
        Due.is(x.of(0, 5), 500);
        Due.is(x.of(1, 5), 0);
        x.waive(1, 40, 1);
        x.waive(1, 30, 1);
        x.pay(1, 35);
        Due.is(x.of(1, 5), 30);
        Due.is(x.waive(1, 34, 1), 34);
        x.pay(1, 10);
        Due.is(x.of(1, 5), 40);
        Due.is(x.waive(0, 1000000, 0), 1000000);
        Due.is(x.of(0, 6), 0);
        Due.is(x.of(0, 4), 500);
        Due.is(x.extra(0, 100000), 101000);
        Due.is(x.of(0, 6), 0);
        Due.is(x.count(4), 11);
    }

    private static void waiveIsFullForAllContractsTogether() {
        LienTower x = Towers.chain(2);
        for (int i = 0; i < 20; i++) {
            Due.is(x.waive(i % 2, 10 + i, 0), 10 + i);
        }
        Due.is(x.waive(0, 999, 0), Due.FULL);
        Due.is(x.waive(2, 999, 0), Due.BEYOND);
        Due.is(x.of(0, 5), 28);
        Due.is(x.of(1, 5), 29);
        Due.is(x.count(4), 20);
    }

    private static void of() {
        LienTower x = Towers.chain(2);
        x.day(50);
        x.began(1, 3, 4);
        x.ended(1, 20, 30);
        x.notice(1);
        x.extra(1, 100);
        x.pay(1, 250);
        x.waive(1, 600, 0);
        int[] due = {1, 2, 1100, 250, 850, 600, 500, 2, 0, 50, 3, 4, 20, 30};
        for (int what = 0; what < due.length; what++) {
            Due.same("what " + what, x.of(1, what), due[what]);
        }
        Due.is(x.pay(1, 400), 450);
        Due.is(x.of(1, 6), 450);
        int[] dueOfFirst = {0, 1, 1000, 0, 1000, 0, 1000, 1, -1, -1, -1, -1, -1, -1};
        for (int what = 0; what < due.length; what++) {
            Due.same("what " + what, x.of(0, what), dueOfFirst[what]);
        }
        Due.is(x.of(0, -1), Due.BEYOND);
        Due.is(x.of(0, 14), Due.BEYOND);
        Due.is(x.of(2, 0), Due.BEYOND);
        Due.is(x.of(-1, 0), Due.BEYOND);
        Due.is(x.of(MOST, LEAST), Due.BEYOND);
    }

    private static void degreesAndUppers() {
        LienTower x = new LienTower();
        for (int i = 1; i <= 6; i++) {
            x.party(2);
        }
        x.contract(0, 4, 1);
        x.contract(0, 2, 1);
        x.contract(4, 1, 1);
        x.contract(2, 3, 1);
        x.contract(3, 6, 1);
        x.contract(4, 5, 1);
        int[] degrees = {1, 1, 2, 2, 3, 2};
        int[] uppers = {-1, -1, 0, 1, 3, 0};
        for (int i = 0; i < degrees.length; i++) {
            Due.is(x.of(i, 7), degrees[i]);
            Due.is(x.of(i, 8), uppers[i]);
        }
    }

    private static void day() {
        LienTower x = new LienTower();
        Due.is(x.day(-1), Due.BEYOND);
        Due.is(x.day(5001), Due.BEYOND);
        Due.is(x.day(LEAST), Due.BEYOND);
        Due.is(x.day(0), 0);
        Due.is(x.day(30), 30);
        Due.is(x.day(30), 0);
        Due.is(x.day(29), Due.BEYOND);
        Due.is(x.count(7), 30);
        Due.is(x.day(5000), 4970);
        Due.is(x.day(5001), Due.BEYOND);
        Due.is(x.day(5000), 0);
        Due.is(x.count(7), 5000);
    }
}
