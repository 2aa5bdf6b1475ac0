/** Promises 21 to 24: loans, sales, draws. */
final class LandTest {
    private static final int LEAST = Integer.MIN_VALUE;
    private static final int MOST = Integer.MAX_VALUE;

    public static void main(String[] args) {
        loan();
        saleFindings();
        salePaysByRanks();
        saleSharesWithinARank();
        saleGivesOddCoinToTheFirst();
        saleGivesOddCoinToOnesWorthNothingToo();
        saleWithLargeNumbers();
        saleLeavesOutBadAndBonded();
        saleByLatestRanks();
        saleIsOnTheDay();
        twice();
        twiceCountsAllBelow();
        sign();
        signTakesTheLeastBits();
        signIsForThoseBelowAlone();
        Due.end();
    }

    private static void loan() {
        LienTower x = new LienTower();
        int lender = x.party(1);
        int builder = x.party(2);
        int plain = x.party(0);
        Due.is(x.loan(lender, 0), Due.BEYOND);
        Due.is(x.loan(lender, 1000001), Due.BEYOND);
        Due.is(x.loan(4, 1), Due.BEYOND);
        Due.is(x.loan(-1, 1), Due.BEYOND);
        Due.is(x.loan(builder, 0), Due.BEYOND);
        Due.is(x.loan(builder, 1), Due.KIND);
        Due.is(x.loan(plain, 1), Due.KIND);
        Due.is(x.loan(0, 1), Due.KIND);
        Due.is(x.count(3), 0);
        Due.is(x.loan(lender, 1000000), 0);
        for (int i = 1; i < 6; i++) {
            Due.is(x.loan(lender, 1), i);
        }
        Due.is(x.loan(lender, 1), Due.FULL);
        Due.is(x.loan(builder, 1), Due.KIND);
        Due.is(x.loan(lender, 0), Due.BEYOND);
        Due.is(x.count(3), 6);
    }

    private static void saleFindings() {
        LienTower x = Towers.row(100);
        int lender = x.party(1);
        Due.is(x.sale(5, 0, 0, 0), Due.BEYOND);
        Due.is(x.sale(5, 0, 1, 0), Due.BEYOND);
        Due.is(x.sale(5, 0, 2, 0), 5);
        x.file(0, 100);
        x.loan(lender, 100);
        Due.is(x.sale(-1, 0, 2, 0), Due.BEYOND);
        Due.is(x.sale(10000001, 0, 2, 0), Due.BEYOND);
        Due.is(x.sale(10000000, 0, 2, 0), 9999800);
        Due.is(x.sale(0, 0, 2, 0), 0);
        Due.is(x.sale(5, -1, 2, 0), Due.BEYOND);
        Due.is(x.sale(5, 2, 2, 0), Due.BEYOND);
        Due.is(x.sale(5, 0, -1, 0), Due.BEYOND);
        Due.is(x.sale(5, 0, 3, 0), Due.BEYOND);
        Due.is(x.sale(5, 0, 2, 1), Due.BEYOND);
        Due.is(x.sale(5, 0, 2, -1), Due.BEYOND);
        Due.is(x.sale(5, 0, 0, 1), Due.BEYOND);
        Due.is(x.sale(5, 0, 0, -1), Due.BEYOND);
        Due.is(x.sale(5, 0, 1, 1), Due.BEYOND);
        Due.is(x.sale(5, 0, 1, -1), Due.BEYOND);
        Due.is(x.sale(MOST, MOST, MOST, MOST), Due.BEYOND);
        Due.is(x.sale(LEAST, LEAST, LEAST, LEAST), Due.BEYOND);
    }

    /** Loan 0 on day 5, claim 0 (begun on 10), loan 1 on day 15, claim 1 (begun on 20). */
    private static LienTower fourRanks() {
        LienTower x = Towers.chain(1);
        int lender = x.party(1);
        int builder = x.party(2);
        x.contract(0, builder, 1000);
        x.law(4, 0);
        x.day(5);
        x.loan(lender, 100);
        x.day(15);
        x.loan(lender, 300);
        x.day(20);
        x.began(0, 10, 10);
        x.began(1, 20, 20);
        x.file(0, 200);
        x.file(1, 400);
        return x;
    }

    private static void dueShares(LienTower x, int coin, int which, int[] loans, int[] claims) {
        int rest = coin;
        for (int i = 0; i < loans.length; i++) {
            Due.same("loan " + i, x.sale(coin, which, 0, i), loans[i]);
            rest -= loans[i];
        }
        for (int i = 0; i < claims.length; i++) {
            Due.same("claim " + i, x.sale(coin, which, 1, i), claims[i]);
            rest -= claims[i];
        }
        Due.same("the owner", x.sale(coin, which, 2, 0), rest);
    }

    private static void salePaysByRanks() {
        LienTower x = fourRanks();
        dueShares(x, 0, 0, new int[] {0, 0}, new int[] {0, 0});
        dueShares(x, 99, 0, new int[] {99, 0}, new int[] {0, 0});
        dueShares(x, 100, 0, new int[] {100, 0}, new int[] {0, 0});
        dueShares(x, 299, 0, new int[] {100, 0}, new int[] {199, 0});
        dueShares(x, 600, 0, new int[] {100, 300}, new int[] {200, 0});
        dueShares(x, 601, 0, new int[] {100, 300}, new int[] {200, 1});
        dueShares(x, 1000, 0, new int[] {100, 300}, new int[] {200, 400});
        dueShares(x, 1003, 0, new int[] {100, 300}, new int[] {200, 400});
        x.law(4, 1);
        dueShares(x, 400, 0, new int[] {100, 0}, new int[] {100, 200});
        x.law(4, 2);
        dueShares(x, 700, 0, new int[] {100, 300}, new int[] {100, 200});
    }

    private static void saleSharesWithinARank() {
        LienTower x = Towers.row(1000, 1000);
        int lender = x.party(1);
        x.file(0, 100);
        x.file(1, 200);
        x.loan(lender, 300);
        dueShares(x, 600, 0, new int[] {300}, new int[] {100, 200});
        dueShares(x, 300, 0, new int[] {150}, new int[] {50, 100});
        dueShares(x, 599, 0, new int[] {300}, new int[] {100, 199});
        dueShares(x, 1, 0, new int[] {1}, new int[] {0, 0});
        dueShares(x, 2, 0, new int[] {2}, new int[] {0, 0});
        dueShares(x, 5, 0, new int[] {3}, new int[] {1, 1});
    }

    private static void saleGivesOddCoinToTheFirst() {
        LienTower x = Towers.row(1000, 1000, 1000);
        int lender = x.party(1);
        x.loan(lender, 7);
        x.loan(lender, 7);
        x.file(2, 7);
        x.file(1, 7);
        x.file(0, 7);
        dueShares(x, 4, 0, new int[] {1, 1}, new int[] {1, 1, 0});
        dueShares(x, 6, 0, new int[] {2, 1}, new int[] {1, 1, 1});
        dueShares(x, 13, 0, new int[] {3, 3}, new int[] {3, 2, 2});
        dueShares(x, 34, 0, new int[] {7, 7}, new int[] {7, 7, 6});
    }

    /** The document names all of that rank, so a claim whose worth is 0 is one of them. */
    private static void saleGivesOddCoinToOnesWorthNothingToo() {
        LienTower x = Towers.row(10, 10, 10);
        x.file(0, 10);
        x.file(0, 10);
        x.file(1, 10);
        x.file(2, 10);
        Due.is(x.worth(1, 0), 0);
        Due.is(x.judge(1, 0), 2);
        dueShares(x, 29, 0, new int[] {}, new int[] {10, 1, 9, 9});
        dueShares(x, 28, 0, new int[] {}, new int[] {10, 0, 9, 9});
        dueShares(x, 30, 0, new int[] {}, new int[] {10, 0, 10, 10});
    }

    private static void saleWithLargeNumbers() {
        LienTower x = new LienTower();
        int lender = x.party(1);
        for (int i = 0; i < 6; i++) {
            x.loan(lender, 1000000 - i);
        }
        dueShares(x, 5999984, 0,
                new int[] {1000000, 999999, 999998, 999997, 999996, 999994}, new int[] {});
        dueShares(x, 3000000, 0,
                new int[] {500002, 500001, 500001, 499999, 499999, 499998}, new int[] {});
        Due.is(x.sale(10000000, 0, 2, 0), 4000015);
    }

    private static void saleLeavesOutBadAndBonded() {
        LienTower x = Towers.row(100, 100, 100);
        x.file(0, 100);
        x.file(1, 100);
        x.file(2, 100);
        x.pay(0, 100);
        dueShares(x, 100, 0, new int[] {}, new int[] {0, 50, 50});
        x.bond(1, 1);
        dueShares(x, 100, 0, new int[] {}, new int[] {0, 0, 100});
        dueShares(x, 150, 1, new int[] {}, new int[] {0, 0, 100});
        x.bond(1, 0);
        dueShares(x, 150, 1, new int[] {}, new int[] {0, 75, 75});
    }

    private static void saleByLatestRanks() {
        LienTower x = Towers.row(100, 100);
        int lender = x.party(1);
        x.law(4, 0);
        x.day(100);
        x.began(0, 0, 100);
        x.loan(lender, 50);
        x.ended(1, 5, 20);
        x.file(0, 40);
        x.file(1, 30);
        Due.is(x.judge(1, 100), 1);
        dueShares(x, 60, 0, new int[] {0}, new int[] {35, 25});
        dueShares(x, 200, 0, new int[] {50}, new int[] {40, 30});
        dueShares(x, 60, 1, new int[] {34}, new int[] {26, 0});
        dueShares(x, 200, 1, new int[] {50}, new int[] {40, 0});
        x.began(0, 0, 99);
        dueShares(x, 60, 1, new int[] {20}, new int[] {40, 0});
        // By more of the law's days both are GOOD, and the second has what is left of the bound.
        x.file(1, 90);
        Due.is(x.judge(2, 100), 1);
        x.law(1, 95);
        Due.is(x.judge(1, 100), 2);
        dueShares(x, 300, 1, new int[] {50}, new int[] {40, 30, 70});
    }

    private static void saleIsOnTheDay() {
        LienTower x = Towers.row(100);
        int lender = x.party(1);
        x.file(0, 100);
        x.day(180);
        x.loan(lender, 100);
        dueShares(x, 150, 0, new int[] {50}, new int[] {100});
        Due.is(x.count(9), 1);
        x.day(181);
        dueShares(x, 150, 0, new int[] {100}, new int[] {0});
        Due.is(x.count(9), 0);
    }

    private static void twice() {
        LienTower x = Towers.begunChain(2, 0);
        Due.is(x.twice(-1), Due.BEYOND);
        Due.is(x.twice(2), Due.BEYOND);
        Due.is(x.twice(1), Due.STATE);
        Due.is(x.twice(0), 0);
        x.file(1, 600);
        x.file(0, 1000);
        Due.is(x.twice(0), 0);
        x.pay(0, 400);
        Due.is(x.twice(0), 0);
        x.pay(0, 1);
        Due.is(x.twice(0), 1);
        x.pay(0, 599);
        Due.is(x.twice(0), 600);
        x.bond(0, 1);
        Due.is(x.twice(0), 600);
        x.law(5, 1);
        Due.is(x.twice(0), 0);
        x.law(5, 0);
        x.day(180);
        Due.is(x.twice(0), 600);
        x.day(181);
        Due.is(x.twice(0), 0);
    }

    private static void twiceCountsAllBelow() {
        LienTower x = Towers.begunChain(4, 0);
        int other = x.party(2);
        int below = x.party(2);
        x.contract(0, other, 1000);
        x.contract(other, below, 1000);
        x.began(5, 0, 0);
        x.notice(5);
        x.file(1, 10);
        x.file(2, 200);
        x.file(3, 50);
        x.file(5, 77);
        x.file(2, 3000);
        x.pay(0, 1000);
        Due.is(x.twice(0), 1010);
        x.law(3, 4);
        Due.is(x.twice(0), 1060);
        Due.is(x.twice(4), 0);
        x.pay(4, 930);
        Due.is(x.twice(4), 7);
        Due.is(x.twice(5), Due.STATE);
    }

    private static void sign() {
        LienTower x = Towers.chain(3);
        Due.is(x.sign(3, 0, 0), Due.BEYOND);
        Due.is(x.sign(-1, 0, 0), Due.BEYOND);
        Due.is(x.sign(0, -1, 0), Due.BEYOND);
        Due.is(x.sign(0, 1000001, 0), Due.BEYOND);
        Due.is(x.sign(0, 0, -1), Due.BEYOND);
        Due.is(x.sign(0, 0, 2), Due.BEYOND);
        Due.is(x.sign(1, -1, 0), Due.BEYOND);
        Due.is(x.sign(1, 0, 0), Due.STATE);
        Due.is(x.sign(0, 0, 0), 6);
        Due.is(x.sign(0, 0, 1), 2);
        Due.is(x.sign(0, 999, 0), 6);
        Due.is(x.sign(0, 1000, 0), 2);
        Due.is(x.sign(0, 1000, 1), 1);
        Due.is(x.sign(0, 1999, 0), 2);
        Due.is(x.sign(0, 2000, 0), 0);
        Due.is(x.sign(0, 1000000, 1), 0);
        x.law(3, 1);
        Due.is(x.sign(0, 0, 0), 0);
        x.law(3, 2);
        Due.is(x.sign(0, 0, 0), 2);
        x.law(3, 3);
        x.pay(1, 1);
        Due.is(x.sign(0, 999, 0), 4);
        x.waive(2, 2, 0);
        Due.is(x.sign(0, 998, 0), 2);
        Due.is(x.sign(0, 999, 0), 2);
        x.pay(2, 1000);
        Due.is(x.sign(0, 0, 0), 2);
    }

    private static void signTakesTheLeastBits() {
        LienTower x = Towers.row(1000);
        int[] sums = {30, 50, 20, 50, 40, 10, 60, 30, 20};
        for (int i = 0; i < sums.length; i++) {
            int builder = x.party(2);
            Due.is(x.contract(1, builder, sums[i]), i + 1);
        }
        // Bits 1 .. 9; all together 310.
        Due.is(x.sign(0, 310, 0), 0);
        Due.is(x.sign(0, 309, 0), 1 << 1);
        Due.is(x.sign(0, 280, 0), 1 << 1);
        Due.is(x.sign(0, 279, 0), 1 << 2);
        Due.is(x.sign(0, 260, 0), 1 << 2);
        Due.is(x.sign(0, 259, 0), 1 << 7);
        Due.is(x.sign(0, 250, 0), 1 << 7);
        Due.is(x.sign(0, 249, 0), 1 << 2 | 1 << 1);
        Due.is(x.sign(0, 230, 0), 1 << 1 | 1 << 2);
        Due.is(x.sign(0, 229, 0), 1 << 2 | 1 << 4);
        Due.is(x.sign(0, 200, 0), 1 << 2 | 1 << 7);
        Due.is(x.sign(0, 199, 0), 1 << 1 | 1 << 2 | 1 << 4);
        Due.is(x.sign(0, 0, 0), 1022);
        Due.is(x.sign(0, 0, 1), 9);
        Due.is(x.sign(0, 9, 0), 1022);
        Due.is(x.sign(0, 10, 0), 1022 - (1 << 6));
    }

    private static void signIsForThoseBelowAlone() {
        LienTower x = Towers.row(1000, 500);
        int a = x.party(2);
        int b = x.party(3);
        int c = x.party(3);
        x.contract(2, a, 100);
        x.contract(1, b, 100);
        x.contract(a, c, 100);
        Due.is(x.sign(0, 0, 0), 8);
        Due.is(x.sign(1, 0, 0), 4 | 16);
        Due.is(x.sign(1, 100, 0), 4);
        Due.is(x.sign(2, 0, 0), Due.STATE);
    }
}
