/** Promises 26 to 29: as GLAD, a ROUND, SPENT, to ASK. */
public final class PaperTest {
    private static final Due due = new Due("PaperTest");

    public static void main(String[] args) {
        glad();
        gladByLaw();
        round();
        roundByLaw();
        spent();
        ask();
        due.finish();
    }

    private static void row(GladBasket b, int n, int cost, int... amounts) {
        due.is(26, "glad(" + n + ", 0)", b.glad(n, 0), cost);
        for (int good = 0; good < amounts.length; good++) {
            due.is(26, "glad(" + n + ", " + (1 + good) + ")", b.glad(n, 1 + good), amounts[good]);
        }
    }

    private static void glad() {
        GladBasket b = new GladBasket();
        row(b, 0, 0);
        row(b, 1, -1);
        b.good(1, 2, 0, 1, 0);
        row(b, 0, 0, 0, -1);
        row(b, 9, 18, 9);
        row(b, 10, -1, -1);
        b.good(1, 4, 0, 2, 0);
        // the first row has the fewest of the first GOOD
        row(b, 2, 4, 0, 1);
        row(b, 3, 6, 1, 1);
        row(b, 18, 36, 0, 9);
        row(b, 27, 54, 9, 9);
        row(b, 28, -1, -1, -1);
        b.good(1, 3, 0, 0, 0);
        row(b, 3, 6, 1, 1, 0, -1);
        b.good(1, 5, 0, 9, 0);
        row(b, 1, 2, 1, 0, 0, 0);
        row(b, 10, 7, 1, 0, 0, 1);
        row(b, 17, 10, 0, 0, 0, 2);
        row(b, 99, 45 + 36, 0, 9, 0, 9);
        for (int i = 0; i < 4; i++) {
            b.good(1, 9 - i, 0, 9, 0);
        }
        row(b, 99, 45 + 12, 0, 0, 0, 9, 0, 0, 0, 2);
        row(b, 91, 45 + 6 + 2, 1, 0, 0, 9, 0, 0, 0, 1);
        for (int i = 4; i < 8; i++) {
            b.lack(i);
        }
        b.lack(3);
        row(b, 3, 6, 1, 1, 0, 0);
        row(b, 28, -1, -1, -1, -1, -1);
        due.is(26, "glad(100, 0)", b.glad(100, 0), -1);
        due.is(26, "glad(-1, 0)", b.glad(-1, 0), -1);
        due.is(26, "glad(1, -1)", b.glad(1, -1), -1);
        due.is(26, "glad(1, 9)", b.glad(1, 9), -1);
        due.is(26, "glad(MIN, MIN)", b.glad(Integer.MIN_VALUE, Integer.MIN_VALUE), -1);
        due.is(26, "glad(1, MAX)", b.glad(1, Integer.MAX_VALUE), -1);
    }

    private static void gladByLaw() {
        GladBasket b = new GladBasket();
        b.good(1, 2, 0, 9, 0);
        b.good(1, 3, 0, 9, 0);
        b.good(1, 4, 0, 1, 0);
        Due.enforce(b, "bars if good = 0; glads 8 if good = 1; glads 9 if good = 2");
        row(b, 9, 4, 0, 0, 1);
        row(b, 8, 3, 0, 1, 0);
        b.lack(1);
        row(b, 8, 4, 0, 0, 1);
        b.stand(1, 0);
        row(b, 8, 4, 0, 0, 1);
    }

    private static void way(GladBasket b, int place, int steps, int... goods) {
        due.is(27, "round(" + place + ", NONE)", b.round(place, -1), steps);
        for (int i = 0; i < goods.length; i++) {
            due.is(27, "round(" + place + ", " + i + ")", b.round(place, i), goods[i]);
        }
        due.is(27, "round(" + place + ", " + goods.length + ")", b.round(place, goods.length), -1);
    }

    private static void round() {
        GladBasket b = new GladBasket();
        way(b, 12, 0);
        b.good(1, 1, 1, 0, 24);
        way(b, 0, 8, 0);
        way(b, 24, 0, 0);
        way(b, 4, 4, 0);
        b.good(1, 1, 1, 0, 20);
        way(b, 22, 6, 0, 1);
        way(b, 21, 5, 1, 0);
        b.good(1, 1, 1, 0, 24);
        way(b, 24, 4, 0, 2, 1);
        way(b, 20, 4, 1, 0, 2);
        b.good(1, 1, 0, 0, 0);
        way(b, 20, 4, 1, 0, 2);
        for (int i = 0; i < 4; i++) {
            b.good(1, 1, 1, 0, 6 * i);
        }
        way(b, 24, 12, 0, 2, 7, 6, 5, 4, 1);
        due.is(27, "round(25, NONE)", b.round(25, -1), -1);
        due.is(27, "round(-1, NONE)", b.round(-1, -1), -1);
        due.is(27, "round(0, -2)", b.round(0, -2), -1);
        due.is(27, "round(0, MIN)", b.round(0, Integer.MIN_VALUE), -1);
        due.is(27, "round(0, MAX)", b.round(0, Integer.MAX_VALUE), -1);
    }

    private static void roundByLaw() {
        GladBasket b = new GladBasket();
        b.good(1, 1, 1, 0, 24);
        b.good(1, 1, 1, 0, 2);
        b.good(1, 1, 1, 0, 20);
        b.lack(0);
        way(b, 0, 8, 1, 2);
        b.stand(0, 2);
        way(b, 0, 8, 1, 0, 2);
        b.lack(2);
        way(b, 0, 8, 1, 0);
        Due.enforce(b, "counts 0 if good = 1; bars");
        way(b, 0, 4, 0);
    }

    private static void sets(GladBasket b, int cost, int glad, int... sets) {
        due.is(28, "spent(" + cost + ", " + glad + ", NONE)", b.spent(cost, glad, -1), sets.length);
        for (int i = 0; i < sets.length; i++) {
            due.is(28, "spent(" + cost + ", " + glad + ", " + i + ")", b.spent(cost, glad, i), sets[i]);
        }
        due.is(28, "spent beyond", b.spent(cost, glad, sets.length), -1);
    }

    private static void spent() {
        GladBasket b = new GladBasket();
        sets(b, 0, 0, 0);
        sets(b, 1, 0);
        b.good(1, 2, 0, 3, 0);
        b.good(1, 1, 0, 1, 0);
        b.good(1, 3, 0, 4, 0);
        b.good(1, 2, 0, 3, 0);
        sets(b, 0, 0, 0);
        sets(b, 3, 4, 3, 4, 10);
        sets(b, 2, 3, 1, 8);
        sets(b, 8, 11, 15);
        sets(b, 3, 5);
        b.lack(2);
        sets(b, 3, 4, 3, 10);
        b.stand(2, 0);
        sets(b, 3, 4, 3, 10);
        b.find(2);
        Due.enforce(b, "glads 0 if good = 2; bars if good = 0");
        sets(b, 3, 0, 4);
        sets(b, 3, 4, 3, 10);
        due.is(28, "spent(-1, 0, NONE)", b.spent(-1, 0, -1), -1);
        due.is(28, "spent(100, 0, NONE)", b.spent(100, 0, -1), -1);
        due.is(28, "spent(0, -1, NONE)", b.spent(0, -1, -1), -1);
        due.is(28, "spent(0, 100, NONE)", b.spent(0, 100, -1), -1);
        due.is(28, "spent(0, 0, -2)", b.spent(0, 0, -2), -1);
        due.is(28, "spent(99, 99, NONE)", b.spent(99, 99, -1), 0);
        b = new GladBasket();
        for (int i = 0; i < 8; i++) {
            b.good(1, 12, 0, 9, 0);
        }
        sets(b, 96, 72, 255);
        due.is(28, "all of four", b.spent(48, 36, -1), 70);
        due.is(28, "the last", b.spent(48, 36, 69), 240);
    }

    private static void asked(GladBasket b, int cost, int glad, int good, int left) {
        due.is(29, "ask(" + cost + ", " + glad + ", 0)", b.ask(cost, glad, 0), good);
        due.is(29, "ask(" + cost + ", " + glad + ", 1)", b.ask(cost, glad, 1), left);
    }

    private static void ask() {
        GladBasket b = new GladBasket();
        asked(b, 0, 0, -1, -1);
        b.good(1, 2, 0, 3, 0);
        b.good(1, 1, 0, 1, 0);
        b.good(1, 3, 0, 4, 0);
        b.good(1, 2, 0, 3, 0);
        // {0, 1}, {2}, {1, 3}: all of 0 to 3 leave two at most
        asked(b, 3, 4, 0, 2);
        asked(b, 2, 3, 0, 1);
        asked(b, 0, 0, 0, 1);
        asked(b, 50, 50, -1, -1);
        b.good(1, 3, 0, 4, 0);
        // and {4}: 1 leaves two, the others three
        asked(b, 3, 4, 1, 2);
        b.lack(0);
        asked(b, 1, 1, 0, 1);
        due.is(29, "ask(100, 0, 0)", b.ask(100, 0, 0), -1);
        due.is(29, "ask(0, 100, 0)", b.ask(0, 100, 0), -1);
        due.is(29, "ask(-1, 0, 1)", b.ask(-1, 0, 1), -1);
        due.is(29, "ask(0, -1, 1)", b.ask(0, -1, 1), -1);
        due.is(29, "ask(0, 0, 2)", b.ask(0, 0, 2), -1);
        due.is(29, "ask(0, 0, -1)", b.ask(0, 0, -1), -1);
    }
}
