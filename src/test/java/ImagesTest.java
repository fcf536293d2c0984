/** Promises 39 and 40: IMAGES, and BACK to one. */
public final class ImagesTest {
    private static final Due due = new Due("ImagesTest");

    public static void main(String[] args) {
        wrongNumbers();
        allThatIsKept();
        lawsAreKept();
        notKept();
        due.finish();
    }

    private static void wrongNumbers() {
        GladBasket b = new GladBasket();
        due.is(39, "image(-1)", b.image(-1), -1);
        due.is(39, "image(2)", b.image(2), -1);
        due.is(40, "back(-1)", b.back(-1), -1);
        due.is(40, "back(2)", b.back(2), -1);
        due.is(40, "back(0)", b.back(0), -2);
        due.is(39, "image(0)", b.image(0), 0);
        due.is(40, "back(1)", b.back(1), -2);
        due.is(40, "back(0)", b.back(0), 0);
        due.is(39, "image(1)", b.image(1), 0);
        due.is(40, "back(1)", b.back(1), 0);
    }

    private static String look(GladBasket b) {
        StringBuilder s = new StringBuilder();
        for (int good = 0; good <= b.count(0); good++) {
            for (int what = 0; what < 7; what++) {
                s.append(b.of(good, what)).append(' ');
            }
            s.append(b.fair(good, 0)).append(' ').append(b.fair(good, 1)).append(' ').append(b.asks(good, 1));
        }
        for (int what : new int[] {0, 1, 2, 3, 4, 12, 13, 14, 15}) {
            s.append(' ').append(b.count(what));
        }
        for (int law = -1; law < 6; law++) {
            s.append(' ').append(b.compare(law));
        }
        return s.append(' ').append(b.trend(0)).append(' ').append(b.trend(2)).toString();
    }

    private static void allThatIsKept() {
        GladBasket b = new GladBasket();
        b.good(2, 4, 3, 5, 7);
        b.good(3, 6, 2, 1, 24);
        b.stand(0, 1);
        b.person();
        b.own(0, 1, 7);
        b.hear(40);
        b.hear(30);
        b.terms(0, 5);
        b.terms(1, 6);
        b.terms(2, 7);
        Due.enforce(b, "counts 9");
        b.lack(0);
        String first = look(b);
        b.image(0);
        b.good(1, 1, 1, 1, 1);
        b.stand(0, -1);
        b.stand(1, 2);
        b.person();
        b.own(0, 1, 1);
        b.own(1, 0, 3);
        b.forget();
        b.hear(1);
        b.hear(2);
        b.hear(3);
        b.terms(1, 1);
        b.terms(2, 2);
        Due.enforce(b, "counts 8; moves 2");
        b.find(0);
        b.lack(1);
        b.weigh(0, 77);
        b.pass();
        String second = look(b);
        due.holds("the looks differ", !first.equals(second));
        b.image(1);
        for (int times = 0; times < 2; times++) {
            b.back(0);
            due.holds("back(0) is as it was", look(b).equals(first));
            b.terms(0, 9);
            b.back(1);
            due.holds("back(1) is as it was", look(b).equals(second));
            b.pass();
            b.weigh(1, 5);
        }
        b.image(0);
        b.back(1);
        due.is(40, "IMAGE 1 stays: of(1, 2)", b.of(1, 2), 2);
        b.back(0);
        due.is(40, "IMAGE 0 is another now: of(1, 2)", b.of(1, 2), 5);
        b.back(1);
        b.back(1);
        due.is(40, "a later GOOD has no OWN weight of before", b.good(1, 1, 1, 1, 1), 3);
    }

    private static void lawsAreKept() {
        GladBasket b = new GladBasket();
        b.good(1, 1, 1, 1, 1);
        b.image(0);
        Due.enforce(b, "counts 11");
        b.image(1);
        b.back(0);
        due.is(40, "count(4)", b.count(4), 0);
        due.is(40, "count(12)", b.count(12), -1);
        Due.enforce(b, "counts 22");
        due.is(40, "by the new LAW 0", b.asks(0, 1), 22);
        b.back(1);
        due.is(40, "by the old LAW 0", b.asks(0, 1), 11);
        due.is(40, "count(12)", b.count(12), 0);
    }

    private static void notKept() {
        GladBasket b = new GladBasket();
        b.good(1, 1, 1, 1, 1);
        b.weigh(0, 5);
        b.image(0);
        due.is(39, "image() leaves what can be undone", b.count(5), 1);
        b.weigh(0, 6);
        b.feed(1, 2, 3, 4, 5);
        b.row();
        Due.orders(b, "lack 9");
        Due.law(b, "bars 1");
        b.feed(1, 2, 3, 4, 5);
        b.lack(9);
        b.back(0);
        due.is(40, "the TAPE stays", b.count(6), 20);
        due.is(40, "FAULT stays", b.fault(), 5);
        due.is(40, "COMMAS stay", b.commas(), 5);
        due.is(40, "where ORDERS stopped stays", b.stopped(), 0);
        due.is(40, "nothing can be undone", b.count(5), 0);
        due.is(40, "undo()", b.undo(), -3);
        due.is(40, "what calls were REFUSED by stays", b.count(8), 1);
        due.is(40, "of(0, 2)", b.of(0, 2), 5);
        due.is(40, "count(0)", b.count(0), 1);
    }
}
