/** Promises 37 and 38: YEARS by DRAWS, and what they leave. */
public final class YearsTest {
    private static final Due due = new Due("YearsTest");

    public static void main(String[] args) {
        wrongNumbers();
        drawByDraw();
        byLaw();
        theEnd();
        theLatest();
        due.finish();
    }

    private static GladBasket basket() {
        GladBasket b = new GladBasket();
        b.good(2, 4, 3, 5, 0);
        b.good(3, 6, 2, 1, 24);
        b.good(6, 3, 1, 9, 4);
        return b;
    }

    private static void wrongNumbers() {
        GladBasket b = new GladBasket();
        due.is(37, "years(-1, 1)", b.years(-1, 1), -1);
        due.is(37, "years(1000001, 1)", b.years(1000001, 1), -1);
        due.is(37, "years(0, 0)", b.years(0, 0), -1);
        due.is(37, "years(0, 61)", b.years(0, 61), -1);
        due.is(37, "years(0, 1) without GOODS", b.years(0, 1), -3);
        due.is(38, "drawn(0, 0) ahead of any", b.drawn(0, 0), -1);
        b.good(1, 1, 1, 1, 1);
        due.is(38, "drawn(0, 0) ahead of any", b.drawn(0, 0), -1);
        due.is(37, "status()", b.years(1000000, 60) > 0 ? b.status() : 1, 0);
        due.is(38, "drawn(0, 2)", b.drawn(0, 2), -1);
        due.is(38, "drawn(0, -1)", b.drawn(0, -1), -1);
        due.is(38, "drawn(1, 0)", b.drawn(1, 0), -1);
        due.is(38, "drawn(-1, 0)", b.drawn(-1, 0), -1);
    }

    /** Each month's DRAWS made here, and the same by calls on another object. */
    private static void drawByDraw() {
        for (int seed = 0; seed <= 1000000; seed += 52631) {
            GladBasket b = basket();
            GladBasket c = basket();
            b.stand(1, 2);
            c.stand(1, 2);
            long s = seed;
            int greatest = 0;
            int[] nows = {4, 6, 3};
            for (int n = 1; n <= 60; n++) {
                s = (s * 1103 + 12345) % 1000003;
                int good = (int) (s % 3);
                s = (s * 1103 + 12345) % 1000003;
                switch ((int) (s % 4)) {
                    case 0: c.lack(good); break;
                    case 1: c.find(good); break;
                    case 2: nows[good] = Math.min(12, nows[good] + 1); break;
                    default: nows[good] = Math.max(1, nows[good] - 1); break;
                }
                // A new object has the prices, for no call changes NOW alone.
                GladBasket d = new GladBasket();
                int[] bases = {2, 3, 6};
                for (int i = 0; i < 3; i++) {
                    d.good(bases[i], nows[i], 3 - i, 0, 0);
                }
                d.stand(1, 2);
                for (int i = 0; i < 3; i++) {
                    if (c.of(i, 5) == 1) {
                        d.lack(i);
                    }
                }
                greatest = Math.max(greatest, d.pension());
                due.is(37, "years(" + seed + ", " + n + ")", b.years(seed, n), greatest);
                for (int i = 0; i < 3; i++) {
                    due.is(38, "drawn(" + i + ", 0)", b.drawn(i, 0), nows[i]);
                    due.is(38, "drawn(" + i + ", 1)", b.drawn(i, 1), c.of(i, 5));
                }
            }
            due.is(37, "on paper: of(0, 1)", b.of(0, 1), 4);
            due.is(37, "on paper: count(1)", b.count(1), 0);
            due.is(37, "on paper: count(13)", b.count(13), 0);
        }
    }

    private static void byLaw() {
        GladBasket b = new GladBasket();
        b.good(1, 4, 1, 0, 0);
        Due.enforce(b, "moves 2; counts month + 1");
        // s is 12345, its rest by 4 is 1; then 629010 of 1, and 796505: 1 again
        due.is(37, "years(0, 1)", b.years(0, 1), 600);
        due.is(38, "drawn(0, 0)", b.drawn(0, 0), 6);
        due.is(37, "years(0, 60)", b.years(0, 60), 1200);
        bounds(12, "moves 0 - 2", 2);
        bounds(1, "moves 2", 3);
        Due.enforce(b, "moves 0 - 9");
        due.is(37, "the greatest is that behind a month", b.years(0, 1), 100);
    }

    /** At a bound of prices: a DRAW by which it would be beyond that leaves it there, then the MONTH passes. */
    private static void bounds(int now, String law, int drawnAt) {
        GladBasket b = new GladBasket();
        b.good(1, now, 1, 0, 0);
        Due.enforce(b, law);
        int met = 0;
        for (long seed = 0; seed < 20; seed++) {
            long s = ((seed * 1103 + 12345) % 1000003 * 1103 + 12345) % 1000003;
            if (s % 4 == drawnAt) {
                met++;
                b.years((int) seed, 1);
                due.is(37, "NOW at a bound", b.drawn(0, 0), now == 12 ? 10 : 3);
            }
        }
        due.holds("a DRAW at the bound was met", met > 0);
    }

    private static void theEnd() {
        GladBasket b = new GladBasket();
        b.good(1, 4, 1, 0, 0);
        Due.enforce(b, "moves 1");
        b.terms(0, 997);
        b.years(3, 2);
        int now = b.drawn(0, 0);
        int lacks = b.drawn(0, 1);
        int greatest = b.years(3, 60);
        due.is(37, "at MONTH 999 it ends", b.drawn(0, 0), now);
        due.is(37, "at MONTH 999 it ends", b.drawn(0, 1), lacks);
        due.is(37, "no more than two months", greatest, b.years(3, 2));
        b.terms(0, 999);
        due.is(37, "no month at all", b.years(3, 5), 0);
        due.is(38, "drawn(0, 0) of no month", b.drawn(0, 0), 4);
        due.is(37, "status()", b.status(), 0);
    }

    private static void theLatest() {
        GladBasket b = basket();
        b.image(0);
        b.years(5, 30);
        int[] seen = new int[6];
        for (int i = 0; i < 6; i++) {
            seen[i] = b.drawn(i / 2, i % 2);
        }
        b.years(5, 0);
        b.years(-5, 1);
        b.weigh(0, 7);
        b.pass();
        b.good(1, 1, 1, 1, 1);
        due.is(38, "drawn(3, 0) of a later GOOD", b.drawn(3, 0), -1);
        b.back(0);
        for (int i = 0; i < 6; i++) {
            due.is(38, "drawn of the latest that was not REFUSED", b.drawn(i / 2, i % 2), seen[i]);
        }
        GladBasket c = new GladBasket();
        c.image(0);
        c.good(2, 5, 1, 1, 1);
        c.years(0, 1);
        c.back(0);
        due.is(38, "drawn(0, 0) stays behind back()", c.drawn(0, 0), 5);
    }
}
