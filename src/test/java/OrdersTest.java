/** Promises 14 to 16: ORDERS, their language, where they stopped. */
public final class OrdersTest {
    private static final Due due = new Due("OrdersTest");

    public static void main(String[] args) {
        faults();
        running();
        words();
        latestAndDone();
        wholeOrNothing();
        stopping();
        brokenTests();
        due.finish();
    }

    private static void fault(String text, int place) {
        GladBasket b = basket();
        int answer = Due.orders(b, text);
        due.is(15, "fault() of '" + text + "'", b.fault(), place);
        due.is(14, "orders() is REFUSED: '" + text + "'", answer == -6 ? 1 : 0, place == -1 ? 0 : 1);
        due.is(16, "stopped() behind '" + text + "'", place == -1 ? -1 : b.stopped(), -1);
        due.is(14, "count(6) behind '" + text + "'", b.count(6), 0);
    }

    private static void faults() {
        int fine = GladBasket.NONE;
        fault("", 0);
        fault("    ", 4);
        fault("pass", fine);
        fault("pass;", 5);
        fault("pass 1", 5);
        fault("pass times", 10);
        fault("pass times 0", 11);
        fault("pass times 1", fine);
        fault("pass times 20", fine);
        fault("pass times 21", 11);
        fault("pass times 00020", fine);
        fault("pass times month", 11);
        fault("pass times [1]", 11);
        fault("pass times 2 times 2", 13);
        fault("pass times 2+1", 12);
        fault("weigh 0 by [[[[[[[[1]]]]]]]]", fine);
        fault("weigh 0 by [[[[[[[[[1]]]]]]]]]", 19);
        fault("weigh [[[[[[[[0]]]]]]]] by 1", fine);
        fault("weigh [[[[[[[[[0]]]]]]]]] by 1", 14);
        fault("pass times 2 if 1=1", fine);
        fault("pass if 1=1 times 2", 12);
        fault("pass if", 7);
        fault("lack", 4);
        fault("lack 1 if 1=2", fine);
        fault("lack 1 by 2", 7);
        fault("find [done] if 1=2", fine);
        fault("weigh 1", 7);
        fault("weigh 1 to 2", 8);
        fault("weigh 1 by", 10);
        fault("weigh 1 by 2", fine);
        fault("weigh 1 by 2 by 3", 13);
        fault("weigh by 2", 6);
        fault("weigh latest+done*figure/[lacking+1]%3+now 0-weight 7 by 1 if 1=2", fine);
        fault("weigh now by 1", 10);
        fault("weigh now 8 by 1", 10);
        fault("weigh now 7 by 1 if 1=2", fine);
        fault("weigh now 007 by 1 if 1=2", fine);
        fault("weigh now[1] by 1", 9);
        fault("weigh now0 by 1 if 1=2", fine);
        fault("weigh weight 8 by 1", 13);
        fault("weigh weight by 1", 13);
        fault("weigh good by 1", 6);
        fault("moves 1", 0);
        fault("Pass", 0);
        fault("pass;pass;pass;pass;pass;pass;pass;pass;pass;pass;pass;pass", fine);
        fault("pass;pass;pass;pass;pass;pass;pass;pass;pass;pass;pass;pass; pass", 61);
        // G and TIMES are no PARTS of their own.
        fault("weigh now 0" + "+now 0".repeat(47) + " by now 0 times 3 if 1=2", 11 + 6 * 47 + 9 + 8 + 6);
        fault("weigh now 0" + "+now 0".repeat(45) + " by now 0 times 3 if now 0=2", fine);
        fault("weigh now 0" + "+now 0".repeat(46) + " by now 0 times 3 if now 0=now 9", 11 + 6 * 46 + 9 + 8 + 10 + 4);
        fault("weigh now 0" + "+now 0".repeat(47) + " by now 0 if now 0=now 9", 11 + 6 * 47 + 9 + 10);
    }

    private static GladBasket basket() {
        GladBasket b = new GladBasket();
        b.good(2, 4, 3, 5, 0);
        b.good(3, 6, 2, 1, 24);
        b.good(6, 3, 1, 9, 4);
        return b;
    }

    private static void running() {
        GladBasket b = basket();
        due.is(14, "lack 0;lack 2", Due.orders(b, "lack 0;lack 2"), 2);
        due.is(14, "count(1)", b.count(1), 2);
        due.is(14, "find [1+1]", Due.orders(b, "find [1+1]"), 1);
        due.is(14, "of(2, 5)", b.of(2, 5), 0);
        due.is(14, "of(0, 5)", b.of(0, 5), 1);
        due.is(14, "weigh", Due.orders(b, "weigh 1 by 99;weigh 2 by 0"), 2);
        due.is(14, "of(1, 2)", b.of(1, 2), 99);
        due.is(14, "of(2, 2)", b.of(2, 2), 0);
        due.is(14, "pass times 20", Due.orders(b, "pass times 20"), 20);
        due.is(14, "count(13)", b.count(13), 20);
        due.is(14, "none is run", Due.orders(b, "pass if 1=2;lack 9 if 1=2"), 0);
        due.is(14, "status()", b.status(), 0);
        due.is(14, "as often as the if is so", Due.orders(b, "pass times 20 if month < 25"), 5);
        due.is(14, "count(13)", b.count(13), 25);
        String twelve = "pass;".repeat(11) + "weigh month % 3 by month + 1 times 3 if done > 10";
        due.is(14, "twelve", Due.orders(b, twelve), 14);
        due.is(14, "of(0, 2)", b.of(0, 2), 37);
        due.is(14, "count(13)", b.count(13), 36);
        Due.enforce(b, "moves 1");
        due.is(14, "by the law", Due.orders(b, "pass times 3"), 3);
        due.is(14, "of(0, 1)", b.of(0, 1), 7);
    }

    /** What a word tells, by what it can be weighed. */
    private static void word(GladBasket b, String sum, int want) {
        due.is(14, "weigh 1 by " + sum, Due.orders(b, "weigh 1 by " + sum), 1);
        due.is(14, sum, b.of(1, 2), want);
        b.undo();
    }

    private static void words() {
        GladBasket b = basket();
        b.terms(0, 9);
        word(b, "month", 9);
        word(b, "done", 0);
        word(b, "latest + 5", 4);
        word(b, "figure / 2", 75);
        word(b, "lacking", 0);
        word(b, "now 1", 6);
        word(b, "now 2", 3);
        word(b, "now 3 + 9", 8);
        word(b, "now 7 + 9", 8);
        word(b, "weight 0", 3);
        word(b, "weight 1", 2);
        word(b, "weight 3 + 9", 8);
        b.lack(0);
        b.lack(2);
        word(b, "lacking", 2);
        word(b, "now 0", 4);
        word(b, "figure / 4", 50);
        b.lack(1);
        word(b, "figure - 50", 50);
    }

    private static void latestAndDone() {
        GladBasket b = basket();
        due.is(14, "the figure is that of now", Due.orders(b, "weigh 0 by 0;weigh 1 by 0;weigh 2 by figure - 10"), 3);
        due.is(14, "of(2, 2)", b.of(2, 2), 40);
        b = basket();
        String chain = "weigh 0 by 50;weigh 1 by latest;weigh 2 by latest + 10";
        due.is(14, "latest is WEIGHT as it was", Due.orders(b, chain), 3);
        due.is(14, "of(1, 2)", b.of(1, 2), 3);
        due.is(14, "of(2, 2)", b.of(2, 2), 12);
        due.is(14, "latest is of this TEXT", Due.orders(b, "weigh 1 by latest + 1"), 1);
        due.is(14, "of(1, 2)", b.of(1, 2), 0);
        due.is(14, "done", Due.orders(b, "pass times 3;lack 0 if done = 4;lack 1 if done = 3;weigh 0 by done"), 5);
        due.is(14, "of(0, 5)", b.of(0, 5), 0);
        due.is(14, "of(1, 5)", b.of(1, 5), 1);
        due.is(14, "of(0, 2)", b.of(0, 2), 4);
        due.is(14, "lack done times 3", Due.orders(basket(), "lack done times 3"), 3);
    }

    private static void cannot(GladBasket b, String text, int clause) {
        int goods = b.count(0);
        long before = look(b);
        due.is(14, "orders() of '" + text + "'", Due.orders(b, text), -3);
        due.is(16, "stopped() of '" + text + "'", b.stopped(), clause);
        due.is(15, "fault() of '" + text + "'", b.fault(), -1);
        due.is(14, "all is as it was behind '" + text + "'", look(b), before);
        due.is(14, "count(0)", b.count(0), goods);
        due.is(14, "status()", b.status(), -3);
    }

    private static long look(GladBasket b) {
        long all = 0;
        for (int good = 0; good < b.count(0); good++) {
            for (int what = 0; what < 7; what++) {
                all = all * 101 + b.of(good, what);
            }
        }
        return all * 101 * 101 + b.count(13) * 101 + b.count(5);
    }

    private static void wholeOrNothing() {
        GladBasket b = basket();
        Due.enforce(b, "moves 1");
        int wrongAhead = b.count(8);
        cannot(b, "lack 9", 0);
        cannot(b, "lack 0 - 1", 0);
        cannot(b, "pass;lack 0;weigh 1 by 7;find 2", 3);
        cannot(b, "weigh 1 by 100", 0);
        cannot(b, "weigh 3 by 1", 0);
        cannot(b, "weigh 1 by 0 - 1", 0);
        cannot(b, "lack 0;lack 0", 1);
        cannot(b, "lack 0 times 2", 0);
        due.is(41, "what can't be within is no call REFUSED by -2", b.count(8), wrongAhead);
        due.is(41, "count(9)", b.count(9), 8);
        b = basket();
        Due.enforce(b, "moves 1");
        cannot(b, "lack 1 / 0", 0);
        cannot(b, "weigh 0 by 1 / done", 0);
        cannot(b, "weigh 1 / 0 by 1", 0);
        cannot(b, "pass times 20;pass times 20;lack 1000 * 1000 * 1000", 2);
        due.is(41, "count(9)", b.count(9), 4);
        behindChanges();
    }

    private static void behindChanges() {
        GladBasket b = basket();
        Due.enforce(b, "moves 1");
        b.weigh(0, 9);
        b.pass();
        cannot(b, "pass times 20;find 0", 1);
        due.is(14, "of(0, 1) behind a month", b.of(0, 1), 5);
        due.is(14, "the latest is still undone first", b.undo(), 3);
        due.is(14, "of(0, 1) as it was", b.of(0, 1), 4);
        due.is(14, "of(1, 1) as it was", b.of(1, 1), 6);
        due.is(14, "then the one ahead", b.undo(), 2);
        due.is(14, "of(0, 2)", b.of(0, 2), 3);
        b.terms(0, 998);
        cannot(b, "pass;pass", 1);
        due.is(14, "pass", Due.orders(b, "pass"), 1);
        cannot(b, "pass", 0);
        due.is(14, "count(13)", b.count(13), 999);
    }

    private static void stopping() {
        GladBasket b = basket();
        due.is(16, "stopped() ahead of any", b.stopped(), -1);
        Due.orders(b, "pass;pass if 1 = 2;find 0");
        due.is(16, "the third", b.stopped(), 2);
        Due.law(b, "x");
        due.is(16, "law() leaves it", b.stopped(), 2);
        Due.orders(b, "pass x");
        due.is(16, "none, if it had a FAULT", b.stopped(), -1);
        Due.orders(b, "find 0");
        Due.orders(b, "pass");
        due.is(16, "none, if all were run", b.stopped(), -1);
        due.is(15, "fault() of the latest", b.fault(), -1);
    }

    private static void brokenTests() {
        GladBasket b = basket();
        due.is(14, "a BROKEN if is not run", Due.orders(b, "pass if 1 / 0 = 1;pass if not 1 / 0 = 1"), 0);
        due.is(14, "its SUM is not asked then", Due.orders(b, "lack 1 / 0 if 1 = 2"), 0);
        due.is(14, "or", Due.orders(b, "pass if 1 = 1 or 1 / 0 = 1"), 1);
        due.is(14, "and", Due.orders(b, "pass if not (1 = 2 and 1 / 0 = 1)"), 1);
    }
}
