/** Promises 18 to 22: to LACK, to FIND, to WEIGH, a MONTH, and all of that undone. */
public final class ChangesTest {
    private static final Due due = new Due("ChangesTest");

    public static void main(String[] args) {
        lackAndFind();
        weigh();
        pass();
        undo();
        sixteen();
        nothingAhead();
        due.finish();
    }

    private static GladBasket basket() {
        GladBasket b = new GladBasket();
        b.good(2, 4, 3, 5, 0);
        b.good(3, 6, 2, 1, 24);
        b.good(6, 11, 1, 9, 4);
        return b;
    }

    private static void lackAndFind() {
        GladBasket b = basket();
        due.is(18, "lack(3)", b.lack(3), -2);
        due.is(18, "lack(-1)", b.lack(-1), -2);
        due.is(18, "lack(1)", b.lack(1), 1);
        due.is(18, "lack(1) again", b.lack(1), -3);
        due.is(18, "lack(2)", b.lack(2), 2);
        due.is(18, "count(1)", b.count(1), 2);
        due.is(18, "of(1, 5)", b.of(1, 5), 1);
        due.is(19, "find(3)", b.find(3), -2);
        due.is(19, "find(MIN)", b.find(Integer.MIN_VALUE), -2);
        due.is(19, "find(0)", b.find(0), -3);
        due.is(19, "find(1)", b.find(1), 1);
        due.is(19, "find(1) again", b.find(1), -3);
        due.is(19, "find(2)", b.find(2), 0);
        due.is(19, "of(1, 5)", b.of(1, 5), 0);
    }

    private static void weigh() {
        GladBasket b = basket();
        due.is(20, "weigh(0, 100)", b.weigh(0, 100), -1);
        due.is(20, "weigh(9, -1)", b.weigh(9, -1), -1);
        due.is(20, "weigh(3, 1)", b.weigh(3, 1), -2);
        due.is(20, "weigh(-1, 1)", b.weigh(-1, 1), -2);
        due.is(20, "weigh(0, 99)", b.weigh(0, 99), 3);
        due.is(20, "weigh(0, 0)", b.weigh(0, 0), 99);
        due.is(20, "of(0, 2)", b.of(0, 2), 0);
        due.is(20, "weigh(0, 0) again", b.weigh(0, 0), 0);
    }

    private static void pass() {
        GladBasket b = basket();
        due.is(21, "pass()", b.pass(), 1);
        due.is(21, "NOW without a LAW", b.of(0, 1), 4);
        Due.enforce(b, "moves 3 - month if good = 0;moves 9 if good = 1;moves 0 - 9 if good = 2 and month = 1"
                + ";moves 2 if good = 2 and month > 1");
        due.is(21, "pass()", b.pass(), 2);
        due.is(21, "of(0, 1)", b.of(0, 1), 6);
        due.is(21, "of(1, 1) is 12 at most", b.of(1, 1), 12);
        due.is(21, "of(2, 1)", b.of(2, 1), 2);
        b.lack(2);
        due.is(21, "pass()", b.pass(), 3);
        due.is(21, "of(0, 1)", b.of(0, 1), 7);
        due.is(21, "NOW of one that LACKS MOVES", b.of(2, 1), 4);
        due.is(21, "BASE does not", b.of(0, 0), 2);
        b = basket();
        Due.enforce(b, "moves 0 - 9");
        b.pass();
        due.is(21, "1 at least", b.of(0, 1) + 10 * b.of(1, 1) + 100 * b.of(2, 1), 211);
        b.terms(0, 998);
        due.is(21, "pass() to 999", b.pass(), 999);
        due.is(21, "pass() from 999", b.pass(), -3);
        due.is(21, "count(13)", b.count(13), 999);
        due.is(21, "pass() of an empty basket", new GladBasket().pass(), 1);
    }

    private static void undo() {
        GladBasket b = basket();
        Due.enforce(b, "moves 5");
        b.lack(1);
        b.weigh(1, 50);
        b.pass();
        b.find(1);
        b.pass();
        due.is(22, "count(5)", b.count(5), 5);
        due.is(22, "undo() of pass", b.undo(), 3);
        due.is(22, "count(13)", b.count(13), 1);
        due.is(22, "of(0, 1)", b.of(0, 1), 9);
        due.is(22, "of(2, 1)", b.of(2, 1), 12);
        due.is(22, "undo() of find", b.undo(), 1);
        due.is(22, "of(1, 5)", b.of(1, 5), 1);
        due.is(22, "undo() of pass", b.undo(), 3);
        due.is(22, "of(2, 1) as it was", b.of(2, 1), 11);
        due.is(22, "count(13)", b.count(13), 0);
        due.is(22, "undo() of weigh", b.undo(), 2);
        due.is(22, "of(1, 2)", b.of(1, 2), 2);
        due.is(22, "undo() of lack", b.undo(), 0);
        due.is(22, "of(1, 5)", b.of(1, 5), 0);
        due.is(22, "undo() of nothing", b.undo(), -3);
        b.lack(9);
        b.find(0);
        b.weigh(0, 100);
        due.is(22, "what was REFUSED is not kept", b.count(5), 0);
        Due.orders(b, "lack 2;weigh 0 by 7;pass times 2;find 2");
        due.is(22, "count(5) behind ORDERS", b.count(5), 5);
        int[] kinds = {1, 3, 3, 2, 0, -3};
        for (int kind : kinds) {
            due.is(22, "undo() of ORDERS", b.undo(), kind);
        }
        due.is(22, "of(0, 1)", b.of(0, 1), 4);
        due.is(22, "of(0, 2)", b.of(0, 2), 3);
        due.is(22, "of(2, 5)", b.of(2, 5), 0);
    }

    private static void sixteen() {
        GladBasket b = basket();
        b.weigh(0, 90);
        b.weigh(1, 91);
        for (int i = 0; i < 15; i++) {
            b.weigh(2, 40 + i);
        }
        due.is(22, "count(5) of 17", b.count(5), 16);
        for (int i = 0; i < 16; i++) {
            due.is(22, "undo() of 16", b.undo(), 2);
        }
        due.is(22, "undo() of a 17th", b.undo(), -3);
        due.is(22, "of(0, 2) is not undone", b.of(0, 2), 90);
        due.is(22, "of(1, 2) is", b.of(1, 2), 2);
        due.is(22, "of(2, 2) is", b.of(2, 2), 1);
        mixed();
        shifted();
        Due.enforce(b, "moves 1");
        Due.orders(b, "pass times 18");
        for (int i = 0; i < 16; i++) {
            b.undo();
        }
        due.is(22, "count(13) behind 16 months undone of 18", b.count(13), 2);
        due.is(22, "of(0, 1)", b.of(0, 1), 6);
    }

    /** More than 16 of all kinds: those that are left are undone each as it was. */
    private static void mixed() {
        GladBasket b = basket();
        Due.enforce(b, "moves good - 1");
        for (int i = 0; i < 6; i++) {
            b.lack(i % 3);
            b.weigh((i + 1) % 3, 10 + i);
            b.pass();
            b.find(i % 3);
        }
        // Of 24 the first eight are gone: the weights 10 and 11 stay, two months have passed.
        for (int i = 5; i >= 2; i--) {
            due.is(22, "undo() of find", b.undo(), 1);
            due.is(22, "it LACKS", b.of(i % 3, 5), 1);
            due.is(22, "undo() of pass", b.undo(), 3);
            due.is(22, "count(13)", b.count(13), i);
            due.is(22, "of(0, 1)", b.of(0, 1), Math.max(1, 4 - i));
            due.is(22, "of(2, 1)", b.of(2, 1), Math.min(12, 11 + i));
            due.is(22, "undo() of weigh", b.undo(), 2);
            due.is(22, "its WEIGHT", b.of((i + 1) % 3, 2), i == 2 ? 3 : i == 3 ? 10 : i == 4 ? 11 : 12);
            due.is(22, "undo() of lack", b.undo(), 0);
            due.is(22, "it does not LACK", b.of(i % 3, 5), 0);
        }
        due.is(22, "undo() of what is gone", b.undo(), -3);
        due.is(22, "count(13)", b.count(13), 2);
        due.is(22, "of(0, 2)", b.of(0, 2), 3);
        due.is(22, "of(1, 2)", b.of(1, 2), 10);
        due.is(22, "of(2, 2)", b.of(2, 2), 11);
    }

    /** The oldest are gone in the midst of others of other kinds. */
    private static void shifted() {
        GladBasket b = basket();
        Due.enforce(b, "moves 1");
        b.lack(0);
        for (int i = 0; i < 12; i++) {
            b.weigh(1, i);
        }
        b.lack(1);
        b.pass();
        b.pass();
        b.find(0);
        b.find(1);
        int[] kinds = {1, 1, 3, 3, 0, 2, 2, 2, 2, 2, 2, 2, 2, 2, 2, 2, -3};
        int[] nows = {6, 6, 5, 4, 4, 4, 4, 4, 4, 4, 4, 4, 4, 4, 4, 4, 4};
        int[] weights = {11, 11, 11, 11, 11, 10, 9, 8, 7, 6, 5, 4, 3, 2, 1, 0, 0};
        for (int i = 0; i < kinds.length; i++) {
            due.is(22, "undo() of those that are left", b.undo(), kinds[i]);
            due.is(22, "of(0, 1)", b.of(0, 1), nows[i]);
            due.is(22, "of(1, 2)", b.of(1, 2), weights[i]);
        }
        due.is(22, "of(0, 5) is not undone", b.of(0, 5), 1);
        due.is(22, "of(1, 5)", b.of(1, 5), 0);
    }

    private static void nothingAhead() {
        for (int way = 0; way < 16; way++) {
            GladBasket b = basket();
            Due.law(b, "bars");
            b.person();
            b.image(1);
            b.weigh(0, 1);
            b.lack(0);
            int left = 2;
            switch (way) {
                case 0: b.good(1, 1, 1, 1, 1); left = 0; break;
                case 1: b.stand(0, 1); left = 0; break;
                case 2: b.terms(2, 2); left = 0; break;
                case 3: b.feed(0, 0, 0, 0, 0); b.row(); left = 0; break;
                case 4: b.back(1); left = 0; break;
                case 5: b.good(0, 1, 1, 1, 1); break;
                case 6: b.stand(0, 0); break;
                case 7: b.terms(3, 2); break;
                case 8: b.row(); break;
                case 9: b.back(0); break;
                case 10: b.person(); b.own(0, 0, 1); break;
                case 11: b.hear(4); b.forget(); break;
                case 12: Due.law(b, "counts 1"); b.force(0); break;
                case 13: b.years(4, 9); b.image(0); break;
                case 14: Due.orders(b, "pass;pass;find 1"); break;
                default: Due.orders(b, "pass if 1=2"); break;
            }
            due.is(22, "count(5) by way " + way, b.count(5), left);
            due.is(22, "undo() by way " + way, b.undo(), left == 0 ? -3 : 0);
        }
    }
}
