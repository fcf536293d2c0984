/** Promises 30 to 33, 36: FAIR, HEARD, a TREND, GETS. */
public final class HearingTest {
    private static final Due due = new Due("HearingTest");

    public static void main(String[] args) {
        fair();
        hear();
        trend();
        gets();
        due.finish();
    }

    private static void fair() {
        GladBasket b = new GladBasket();
        due.is(30, "fair(0, 0) without GOODS", b.fair(0, 0), -1);
        b.good(1, 1, 1, 1, 1);
        b.good(1, 1, 1, 1, 1);
        due.is(30, "fair(0, 0) without PEOPLE", b.fair(0, 0), 0);
        due.is(30, "fair(0, 1) without PEOPLE", b.fair(0, 1), 0);
        int[] owns = {9, 9, 4, 7, 0};
        int[] weights = {9, 9, 9, 7, 7};
        int[] offs = {0, 0, 5, 7, 14};
        for (int person = 0; person < 5; person++) {
            b.person();
            b.own(person, 0, owns[person]);
            due.is(30, "fair(0, 0) of " + (person + 1), b.fair(0, 0), weights[person]);
            due.is(30, "fair(0, 1) of " + (person + 1), b.fair(0, 1), offs[person]);
        }
        due.is(30, "fair(1, 0)", b.fair(1, 0), 0);
        b.own(0, 1, 6);
        due.is(30, "fair(1, 1)", b.fair(1, 1), 6);
        due.is(30, "fair(2, 0)", b.fair(2, 0), -1);
        due.is(30, "fair(-1, 0)", b.fair(-1, 0), -1);
        due.is(30, "fair(0, 2)", b.fair(0, 2), -1);
        due.is(30, "fair(0, -1)", b.fair(0, -1), -1);
    }

    private static void hear() {
        GladBasket b = new GladBasket();
        due.is(31, "hear(-1)", b.hear(-1), -1);
        due.is(31, "hear(1000)", b.hear(1000), -1);
        due.is(32, "forget() of nothing", b.forget(), 0);
        for (int i = 1; i <= 12; i++) {
            due.is(31, "hear", b.hear(i == 1 ? 0 : 999), i);
        }
        due.is(31, "a 13th that can't be", b.hear(1000), -1);
        due.is(31, "a 13th", b.hear(1), -5);
        due.is(31, "count(3)", b.count(3), 12);
        due.is(32, "forget()", b.forget(), 12);
        due.is(32, "status() is still that of hear()", b.status(), -5);
        due.is(32, "count(3)", b.count(3), 0);
        due.is(31, "hear behind that", b.hear(5), 1);
        due.is(32, "forget()", b.forget(), 1);
    }

    private static void line(GladBasket b, int... want) {
        for (int what = 0; what < 4; what++) {
            due.is(33, "trend(" + what + ")", b.trend(what), want[what]);
        }
    }

    private static void trend() {
        GladBasket b = new GladBasket();
        int no = GladBasket.NOTHING;
        line(b, no, no, no, no);
        b.hear(100);
        line(b, no, no, no, no);
        b.hear(90);
        line(b, -10, 1, 100, 1);
        b.hear(90);
        // the mean is 280/3, the rise -5
        line(b, -5, 1, 295, 3);
        b.hear(0);
        // months -3, -1, 1, 3 by halves: (-300 - 90 + 90 + 0) / 10 = -30; 70 + 45
        line(b, -30, 1, 115, 1);
        due.is(33, "trend(4)", b.trend(4), no);
        due.is(33, "trend(-1)", b.trend(-1), no);
        b.forget();
        b.hear(7);
        b.hear(7);
        line(b, 0, 1, 7, 1);
        b.forget();
        b.hear(0);
        b.hear(0);
        b.hear(0);
        line(b, 0, 1, 0, 1);
        b.forget();
        b.hear(0);
        b.hear(0);
        b.hear(999);
        b.hear(998);
        // (0 + 0 + 999 + 3 * 998) / 10 = 3993/10; 1997/4 - 3/2 * 3993/10 = -997/10
        line(b, 3993, 10, -997, 10);
        b.forget();
        for (int i = 0; i < 12; i++) {
            b.hear(i < 6 ? 0 : 999);
        }
        // 999 * 36 / 286 by two halves: 999 * 18/143; 999/2 - 11/2 * that
        line(b, 17982, 143, -4995, 26);
        b.hear(4);
        due.is(33, "trend(0) of the same", b.trend(0), 17982);
    }

    private static void gets() {
        GladBasket b = new GladBasket();
        due.is(36, "gets(0, 0) without GOODS", b.gets(0, 0), -1);
        b.good(1, 12, 0, 0, 0);
        b.good(1, 11, 0, 0, 0);
        b.good(1, 1, 0, 0, 0);
        long all = 1000000000000L;
        due.is(36, "gets(0, 0)", b.gets(0, 0), all);
        due.is(36, "gets(0, 60)", b.gets(0, 60), all);
        due.is(36, "gets(1, 0)", b.gets(1, 0), 0);
        due.is(36, "gets(1, 1)", b.gets(1, 1), 300000000000L);
        due.is(36, "gets(1, 2)", b.gets(1, 2), 510000000000L);
        due.is(36, "gets(2, 10)", b.gets(2, 10), 0);
        due.is(36, "gets(2, 11)", b.gets(2, 11), 1771470L);
        due.is(36, "gets(2, 61)", b.gets(2, 61), -1);
        due.is(36, "gets(2, -1)", b.gets(2, -1), -1);
        due.is(36, "gets(3, 1)", b.gets(3, 1), -1);
        due.is(36, "gets(-1, 1)", b.gets(-1, 1), -1);
        b.terms(1, 10);
        due.is(36, "gets by ten of ten", b.gets(2, 10), 0);
        due.is(36, "gets by ten of ten", b.gets(2, 11), all);
        due.is(36, "gets by ten of ten", b.gets(2, 60), all);
        b.terms(1, 0);
        due.is(36, "gets by none of ten", b.gets(1, 60), 0);
        b.terms(1, 7);
        // cut 0.3 of what is left: 1e12 * 3^n / 10^n, in each month from what the month ahead left
        long left = all;
        long at = 0;
        for (int n = 0; n <= 60; n++) {
            due.is(36, "gets(1, " + n + ") of seven of ten", b.gets(1, n), at);
            at += left * 7 / 10;
            left = left * 3 / 10;
        }
        b.lack(1);
        due.is(36, "gets of one that LACKS", b.gets(1, 1), 700000000000L);
    }
}
