/** Towers that several tests begin with. */
final class Towers {
    private Towers() {
    }

    /**
     * Builders 1 .. n, each paid 1000 by the one ahead of it (the first by THE OWNER): contract
     * i is of degree i + 1, and payee i + 1.
     */
    static LienTower chain(int n) {
        LienTower x = new LienTower();
        for (int i = 1; i <= n; i++) {
            Due.is(x.party(2), i);
            Due.is(x.contract(i - 1, i, 1000), i - 1);
        }
        return x;
    }

    /** As chain(n), and then the day is told, on which all have begun and had notice. */
    static LienTower begunChain(int n, int day) {
        LienTower x = chain(n);
        Due.is(x.day(day), day);
        for (int i = 0; i < n; i++) {
            Due.is(x.began(i, day, day), 1);
            Due.is(x.notice(i), 1);
        }
        return x;
    }

    /** Builders 1 .. n, each paid a sum by THE OWNER; begun on day 0. */
    static LienTower row(int... sums) {
        LienTower x = new LienTower();
        for (int i = 0; i < sums.length; i++) {
            Due.is(x.party(2), i + 1);
            Due.is(x.contract(0, i + 1, sums[i]), i);
            Due.is(x.began(i, 0, 0), 1);
        }
        return x;
    }
}
