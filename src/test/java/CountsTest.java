/** Promises 41 and 42: count and status. */
public final class CountsTest {
    private static final Due due = new Due("CountsTest");
    private static final int[] BY = {-1, -2, -3, -5, -6};
    private static int[] refused = new int[5];

    public static void main(String[] args) {
        counts();
        refusals();
        silentCalls();
        due.finish();
    }

    private static void counts() {
        GladBasket b = new GladBasket();
        b.good(1, 1, 1, 1, 1);
        b.good(1, 1, 1, 1, 1);
        b.good(1, 1, 1, 1, 1);
        b.person();
        b.person();
        b.hear(1);
        Due.law(b, "bars");
        Due.law(b, "bars");
        Due.law(b, "bars");
        Due.law(b, "bars");
        b.force(3);
        b.terms(0, 123);
        b.terms(1, 4);
        b.terms(2, 5);
        b.lack(0);
        b.lack(1);
        b.weigh(0, 3);
        b.feed(0, 0, 0, 0, 0);
        b.end(13);
        int[] want = {3, 2, 2, 1, 4, 3, 13, 0, 0, 0, 0, 0, 3, 123, 4, 5};
        for (int what = 0; what < want.length; what++) {
            due.is(41, "count(" + what + ")", b.count(what), want[what]);
        }
        due.is(41, "count(16)", b.count(16), -1);
        due.is(41, "count(-1)", b.count(-1), -1);
        due.is(41, "count(MIN)", b.count(Integer.MIN_VALUE), -1);
        due.is(41, "count(MAX)", b.count(Integer.MAX_VALUE), -1);
    }

    private static void refusal(GladBasket b, String call, int answer, int by) {
        due.is(42, call, answer, by);
        due.is(42, "status() behind " + call, b.status(), by);
        for (int i = 0; i < 5; i++) {
            refused[i] += BY[i] == by ? 1 : 0;
            due.is(41, "count(" + (7 + i) + ") behind " + call, b.count(7 + i), refused[i]);
        }
        b.image(1);
        due.is(42, "status() behind one that was not", b.status(), 0);
    }

    private static void refusals() {
        GladBasket b = new GladBasket();
        refused = new int[5];
        due.is(42, "status() ahead of any", b.status(), 0);
        refusal(b, "good -1", b.good(0, 0, 0, 0, 0), -1);
        refusal(b, "stand -1", b.stand(0, 0), -1);
        refusal(b, "stand -2", b.stand(0, -1), -2);
        refusal(b, "own -1", b.own(0, 0, 10), -1);
        refusal(b, "own -2", b.own(0, 0, 1), -2);
        refusal(b, "terms -1", b.terms(0, 1000), -1);
        refusal(b, "row -6", b.row(), -6);
        refusal(b, "law -6", b.law(), -6);
        refusal(b, "orders -6", b.orders(), -6);
        refusal(b, "orders -3", Due.orders(b, "lack 0"), -3);
        refusal(b, "force -2", b.force(0), -2);
        refusal(b, "lack -2", b.lack(0), -2);
        refusal(b, "find -2", b.find(0), -2);
        refusal(b, "weigh -1", b.weigh(0, 100), -1);
        refusal(b, "weigh -2", b.weigh(0, 1), -2);
        refusal(b, "undo -3", b.undo(), -3);
        refusal(b, "hear -1", b.hear(1000), -1);
        refusal(b, "years -1", b.years(0, 0), -1);
        refusal(b, "years -3", b.years(0, 1), -3);
        refusal(b, "image -1", b.image(2), -1);
        refusal(b, "back -1", b.back(2), -1);
        refusal(b, "back -2", b.back(0), -2);
        for (int i = 0; i < 12; i++) {
            b.good(1, 1, 1, 1, 1);
            b.hear(1);
            b.person();
            if (i >= 8) {
                refused[3]++;
            }
            if (i >= 5) {
                refused[3]++;
            }
            if (i < 6) {
                Due.law(b, "bars");
            }
        }
        refusal(b, "good -5", b.good(1, 1, 1, 1, 1), -5);
        refusal(b, "person -5", b.person(), -5);
        refusal(b, "law -5", Due.law(b, "bars"), -5);
        refusal(b, "hear -5", b.hear(1), -5);
        b.lack(0);
        refusal(b, "lack -3", b.lack(0), -3);
        refusal(b, "find -3", b.find(1), -3);
        b.terms(0, 999);
        refusal(b, "pass -3", b.pass(), -3);
        refusal(b, "orders -3", Due.orders(b, "pass"), -3);
    }

    /** Calls that status() does not tell of, and that no count of refusals counts. */
    private static void silentCalls() {
        GladBasket b = new GladBasket();
        b.lack(5);
        b.of(5, 0);
        b.asks(5, 0);
        b.feed(0, 0, 0, 0, 0);
        b.end(-1);
        b.end(0);
        b.commas();
        b.fault();
        b.stopped();
        b.figure(9, 9);
        b.turned(9, 9);
        b.pension();
        b.glad(-1, 0);
        b.round(-1, 0);
        b.spent(-1, 0, 0);
        b.ask(-1, 0, 0);
        b.fair(5, 0);
        b.forget();
        b.trend(0);
        b.does(5);
        b.compare(5);
        b.gets(5, 0);
        b.drawn(5, 0);
        b.count(99);
        due.is(42, "status() is still that of lack()", b.status(), -2);
        due.is(41, "count(7)", b.count(7), 0);
        due.is(41, "count(8)", b.count(8), 1);
    }
}
