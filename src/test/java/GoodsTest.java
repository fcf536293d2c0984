/** Promises 1 to 8: a new object, GOODS, STAND-INS, PEOPLE, OWN weights, TERMS. */
public final class GoodsTest {
    private static final Due due = new Due("GoodsTest");

    public static void main(String[] args) {
        newObject();
        goods();
        standIns();
        people();
        terms();
        due.finish();
    }

    private static void newObject() {
        GladBasket b = new GladBasket();
        int[] counts = {0, 0, 0, 0, 0, 0, 0, 0, 0, 0, 0, 0, -1, 0, 3, 0};
        for (int what = 0; what < counts.length; what++) {
            due.is(1, "count(" + what + ") of a new object", b.count(what), counts[what]);
        }
        due.is(1, "fault()", b.fault(), GladBasket.NONE);
        due.is(1, "stopped()", b.stopped(), GladBasket.NONE);
        due.is(1, "commas()", b.commas(), 0);
        due.is(1, "status()", b.status(), 0);
        due.is(1, "of(0, 0)", b.of(0, 0), GladBasket.NONE);
        due.is(1, "drawn(0, 0)", b.drawn(0, 0), GladBasket.NONE);
        due.is(1, "back(0)", b.back(0), -2);
        due.is(1, "undo()", b.undo(), -3);
        due.is(1, "NONE", GladBasket.NONE, -1);
        due.is(1, "NOTHING", GladBasket.NOTHING, -100000);
    }

    private static void goods() {
        GladBasket b = new GladBasket();
        int[][] lowAndHigh = {{1, 12}, {1, 12}, {0, 99}, {0, 9}, {0, 24}};
        for (int i = 0; i < 5; i++) {
            for (int side = 0; side < 2; side++) {
                int[] a = {2, 3, 4, 5, 6};
                a[i] = lowAndHigh[i][side] + (side == 0 ? -1 : 1);
                due.is(2, "good with " + a[i] + " at " + i, b.good(a[0], a[1], a[2], a[3], a[4]), -1);
            }
        }
        due.is(2, "good by the least number", b.good(Integer.MIN_VALUE, 1, 0, 0, 0), -1);
        due.is(2, "good by the greatest number", b.good(1, 1, Integer.MAX_VALUE, 0, 0), -1);
        due.is(2, "count(0)", b.count(0), 0);
        due.is(2, "good of the least", b.good(1, 1, 0, 0, 0), 0);
        due.is(2, "good of the greatest", b.good(12, 12, 99, 9, 24), 1);
        for (int good = 2; good < 8; good++) {
            due.is(2, "good", b.good(3, 4, 5, 6, 7), good);
        }
        due.is(2, "a ninth that can't be", b.good(0, 1, 0, 0, 0), -1);
        due.is(2, "a ninth", b.good(1, 1, 0, 0, 0), -5);
        int[][] want = {{1, 1, 0, 0, 0, 0, -1}, {12, 12, 99, 9, 24, 0, -1}, {3, 4, 5, 6, 7, 0, -1}};
        for (int good = 0; good < 3; good++) {
            for (int what = 0; what < 7; what++) {
                due.is(3, "of(" + good + ", " + what + ")", b.of(good, what), want[good][what]);
            }
        }
        due.is(3, "of(8, 0)", b.of(8, 0), -1);
        due.is(3, "of(-1, 0)", b.of(-1, 0), -1);
        due.is(3, "of(0, 7)", b.of(0, 7), -1);
        due.is(3, "of(0, -1)", b.of(0, -1), -1);
        due.is(3, "of(1, MIN)", b.of(1, Integer.MIN_VALUE), -1);
        b.lack(1);
        due.is(3, "of(1, 5) of one that LACKS", b.of(1, 5), 1);
    }

    private static void standIns() {
        GladBasket b = new GladBasket();
        due.is(5, "stand(0, 0) without GOODS", b.stand(0, 0), -1);
        due.is(5, "stand(0, 1) without GOODS", b.stand(0, 1), -1);
        due.is(5, "stand(0, NONE) without GOODS", b.stand(0, -1), -2);
        due.is(5, "stand(NONE, NONE)", b.stand(-1, -1), -2);
        b.good(1, 2, 3, 4, 5);
        b.good(2, 3, 4, 5, 6);
        due.is(5, "stand(0, 1)", b.stand(0, 1), 0);
        due.is(5, "of(0, 6)", b.of(0, 6), 1);
        due.is(5, "stand(0, 0)", b.stand(0, 0), -1);
        due.is(5, "stand(0, 2)", b.stand(0, 2), -1);
        due.is(5, "stand(0, -2)", b.stand(0, -2), -1);
        due.is(5, "stand(2, 1)", b.stand(2, 1), -2);
        due.is(5, "stand(5, 5)", b.stand(5, 5), -1);
        due.is(5, "of(0, 6) as it was", b.of(0, 6), 1);
        due.is(5, "stand(1, 0)", b.stand(1, 0), 0);
        due.is(5, "stand(0, NONE)", b.stand(0, GladBasket.NONE), 0);
        due.is(5, "of(0, 6) without", b.of(0, 6), GladBasket.NONE);
        due.is(5, "of(1, 6) still", b.of(1, 6), 0);
    }

    private static void people() {
        GladBasket b = new GladBasket();
        due.is(7, "own(0, 0, 10)", b.own(0, 0, 10), -1);
        due.is(7, "own(0, 0, -1)", b.own(0, 0, -1), -1);
        due.is(7, "own(0, 0, 9) without anyone", b.own(0, 0, 9), -2);
        due.is(6, "person()", b.person(), 0);
        due.is(7, "own(0, 0, 9) without a GOOD", b.own(0, 0, 9), -2);
        b.good(1, 1, 1, 1, 1);
        due.is(7, "own(0, 0, 9)", b.own(0, 0, 9), 0);
        due.is(7, "own(0, 0, 0)", b.own(0, 0, 0), 9);
        due.is(7, "own(0, 0, 4)", b.own(0, 0, 4), 0);
        due.is(7, "own(1, 0, 4)", b.own(1, 0, 4), -2);
        due.is(7, "own(-1, 0, 4)", b.own(-1, 0, 4), -2);
        due.is(7, "own(0, 1, 4)", b.own(0, 1, 4), -2);
        due.is(7, "own(0, -1, 4)", b.own(0, -1, 4), -2);
        for (int person = 1; person < 5; person++) {
            due.is(6, "person()", b.person(), person);
        }
        due.is(6, "a sixth", b.person(), -5);
        due.is(6, "count(2)", b.count(2), 5);
        due.is(7, "own(4, 0, 3)", b.own(4, 0, 3), 0);
        due.is(7, "own(4, 0, 2)", b.own(4, 0, 2), 3);
        due.is(7, "own(0, 0, 5) is its own", b.own(0, 0, 5), 4);
        b.good(1, 1, 1, 1, 1);
        due.is(7, "own(0, 1, 5) of a later GOOD", b.own(0, 1, 5), 0);
        for (int good = 2; good < 8; good++) {
            b.good(1, 1, 1, 1, 1);
            due.is(7, "own(4, good, 8)", b.own(4, good, 8), 0);
            due.is(7, "own(4, good, 1)", b.own(4, good, 1), 8);
        }
    }

    private static void terms() {
        GladBasket b = new GladBasket();
        int[] first = {0, 3, 0};
        int[] top = {999, 10, 9};
        for (int what = 0; what < 3; what++) {
            due.is(8, "terms(" + what + ", -1)", b.terms(what, -1), -1);
            due.is(8, "terms above", b.terms(what, top[what] + 1), -1);
            due.is(8, "terms(" + what + ", top)", b.terms(what, top[what]), first[what]);
            due.is(8, "count(13 + what)", b.count(13 + what), top[what]);
            due.is(8, "terms(" + what + ", 0)", b.terms(what, 0), top[what]);
            due.is(8, "terms(" + what + ", 1)", b.terms(what, 1), 0);
        }
        due.is(8, "terms(3, 0)", b.terms(3, 0), -1);
        due.is(8, "terms(-1, 0)", b.terms(-1, 0), -1);
        due.is(8, "terms(MIN, 0)", b.terms(Integer.MIN_VALUE, 0), -1);
    }
}
