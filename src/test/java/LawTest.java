/** Promises 4, 13, 15, 17: LAWS, their language, FAULT, FORCE, what they tell. */
public final class LawTest {
    private static final Due due = new Due("LawTest");

    public static void main(String[] args) {
        faults();
        limits();
        room();
        force();
        words();
        sums();
        tests();
        broken();
        lastThatHolds();
        bounds();
        lacking();
        due.finish();
    }

    private static void fault(String text, int place) {
        GladBasket b = new GladBasket();
        due.is(13, "law() of '" + text + "'", Due.law(b, text), place == GladBasket.NONE ? 0 : -6);
        due.is(15, "fault() of '" + text + "'", b.fault(), place);
        due.is(13, "count(6) behind '" + text + "'", b.count(6), 0);
        due.is(13, "count(4) behind '" + text + "'", b.count(4), place == GladBasket.NONE ? 1 : 0);
        due.is(13, "status() behind '" + text + "'", b.status(), place == GladBasket.NONE ? 0 : -6);
    }

    private static void faults() {
        int fine = GladBasket.NONE;
        fault("", 0);
        fault("   ", 3);
        fault("bars", fine);
        fault("  bars  ", fine);
        fault("bars;", 5);
        fault("bars;  ", 7);
        fault("bars;;bars", 5);
        fault("bars bars", 5);
        fault("bars 1", 5);
        fault("barsx", 0);
        fault("barsa", 0);
        fault("barsz", 0);
        fault("bars`", 4);
        fault("bars{", 4);
        fault("bars/", 4);
        fault("bars:", 4);
        fault("Bars", 0);
        fault("moves1", fine);
        fault("moves 1bars", 7);
        fault("moves 1;bars", fine);
        fault("moves 1 2", 8);
        fault("moves now2", 9);
        fault("moves -1", 6);
        fault("moves 0-1", fine);
        fault("moves 1+", 8);
        fault("moves 1+  ", 10);
        fault("moves 1+*2", 8);
        fault("moves 1 + 2 * 3 / 4 % 5 - 6", fine);
        fault("moves 1000", fine);
        fault("moves 1001", 6);
        fault("moves 0000000000000000001000", fine);
        fault("moves 99999999999999999999999", 6);
        fault("moves 4294967297", 6);
        fault("moves [1]", fine);
        fault("moves []", 7);
        fault("moves [1", 8);
        fault("moves [1)", 8);
        fault("moves (1)", 6);
        fault("moves 1=1", 7);
        fault("moves 1 if", 10);
        fault("moves 1 if 1", 12);
        fault("moves 1 if [1]", 14);
        fault("moves 1 if 1=", 13);
        fault("moves 1 if 1=1", fine);
        fault("moves 1 if 1==1", 13);
        fault("moves 1 if 1=1=1", 14);
        fault("moves 1 if (1)", 13);
        fault("moves 1 if (1=1)", fine);
        fault("moves 1 if (1=1", 15);
        fault("moves 1 if (1=1]", 15);
        fault("moves 1 if [1=1]", 13);
        fault("moves 1 if not", 14);
        fault("moves 1 if not not not 1=1", fine);
        fault("moves 1 if not(1=1)", fine);
        fault("moves 1 if 1=1 and", 18);
        fault("moves 1 if 1=1 and or", 19);
        fault("moves 1 if 1=1 and not 2<3 or (2>1)", fine);
        fault("moves 1 if 1=1 or", 17);
        fault("moves 1 if 1=1 not 1=1", 15);
        fault("moves 1 if 1=1 if 1=1", 15);
        fault("moves 1 times 2", 8);
        fault("moves done", 6);
        fault("moves mood + place - lacks * glad / weight % now + base - good + month", fine);
        fault("lack 1", 0);
        fault("moves 1\t", 7);
        fault("moves 1\0", 7);
        fault("moves \u00e4", 6);
        fault("moves 1 if good! = 1", 15);
        StringBuilder nots = new StringBuilder("bars if");
        for (int i = 0; i < 96; i++) {
            nots.append(" not");
        }
        fault(nots + " 1=1", fine);
        fault(nots.toString(), nots.length());
    }

    private static String times(String text, int n) {
        return text.repeat(n);
    }

    private static void limits() {
        int fine = GladBasket.NONE;
        fault(times("bars;", 11) + "bars", fine);
        fault(times("bars;", 12) + "bars", 60);
        fault(times("bars;", 12), 60);
        fault(times("bars;", 12) + "  x", 62);
        fault(times("bars;", 11) + "bars bars", 60);
        fault("moves 1" + times("+1", 49), fine);
        fault("moves 1" + times("+1", 50), 106);
        fault("moves 1" + times("+1", 48) + "+good;counts 1", 116);
        fault("counts 1" + times("+1", 47) + " if [1]=good", fine);
        fault("counts 1" + times("+1", 47) + " if [1]=good+now", 116 - 1);
        fault("moves " + times("[", 8) + "1" + times("]", 8), fine);
        fault("moves " + times("[", 9) + "1" + times("]", 9), 14);
        fault("bars if " + times("(", 8) + "1=1" + times(")", 8), fine);
        fault("bars if " + times("(", 9) + "1=1" + times(")", 9), 16);
        fault("bars if " + times("(", 5) + "[[[1]]]=1" + times(")", 5), fine);
        fault("bars if " + times("(", 5) + "[[[[1]]]]=1" + times(")", 5), 16);
        fault("bars if (" + times("[", 7) + "1" + times("]", 7) + "=" + times("[", 7) + "1" + times("]", 7) + ")",
                fine);
        fault("moves [1]" + times("+[1]", 40), fine);
    }

    private static void room() {
        GladBasket b = new GladBasket();
        due.is(15, "fault() ahead of any", b.fault(), -1);
        for (int law = 0; law < 6; law++) {
            due.is(13, "law()", Due.law(b, "bars"), law);
        }
        due.is(13, "a seventh", Due.law(b, "x"), -5);
        due.is(13, "count(6) behind it", b.count(6), 0);
        due.is(15, "fault() of the latest that read", b.fault(), -1);
        due.is(13, "orders() with a FAULT", Due.orders(b, "pass x"), -6);
        due.is(13, "law() of nothing without room", b.law(), -5);
        due.is(15, "fault() is still that of orders()", b.fault(), 5);
        due.is(13, "count(4)", b.count(4), 6);
    }

    private static void force() {
        GladBasket b = new GladBasket();
        due.is(17, "force(0) without LAWS", b.force(0), -2);
        due.is(17, "force(NONE)", b.force(-1), -1);
        due.is(17, "status() behind an answer of NONE", b.status(), 0);
        Due.law(b, "counts 5");
        Due.law(b, "counts 6");
        b.good(1, 1, 1, 1, 1);
        due.is(17, "no LAW yet", b.asks(0, 1), 1);
        due.is(17, "force(1)", b.force(1), -1);
        due.is(17, "count(12)", b.count(12), 1);
        due.is(17, "by LAW 1", b.asks(0, 1), 6);
        due.is(17, "force(0)", b.force(0), 1);
        due.is(17, "by LAW 0", b.asks(0, 1), 5);
        due.is(17, "force(2)", b.force(2), -2);
        due.is(17, "force(-2)", b.force(-2), -2);
        due.is(17, "count(12)", b.count(12), 0);
        due.is(17, "force(NONE)", b.force(-1), 0);
        due.is(17, "by none", b.asks(0, 1), 1);
    }

    /** What "counts" tells of a GOOD 1 by a LAW, from 0 to 99. */
    private static void counts(String sum, int want) {
        GladBasket b = basket();
        Due.enforce(b, "counts " + sum);
        due.is(4, "counts " + sum, b.asks(1, 1), want);
    }

    private static GladBasket basket() {
        GladBasket b = new GladBasket();
        b.terms(0, 77);
        b.terms(2, 8);
        b.good(1, 1, 1, 1, 1);
        b.good(3, 11, 42, 5, 23);
        return b;
    }

    private static void words() {
        counts("good", 1);
        counts("base", 3);
        counts("now", 11);
        counts("weight", 42);
        counts("glad", 5);
        counts("lacks", 0);
        counts("place", 23);
        counts("month", 77);
        counts("mood", 8);
        GladBasket b = basket();
        b.stand(1, 0);
        b.lack(1);
        Due.enforce(b, "counts lacks * 50 + base + now");
        due.is(4, "words of one that LACKS are its own", b.asks(1, 1), 64);
        b.force(-1);
        Due.enforce(b, "glads 3; counts glad");
        due.is(4, "glad is as told", b.asks(1, 1), 5);
        due.is(4, "glads 3", b.asks(1, 2), 3);
    }

    private static void sums() {
        counts("2 + 3 * 4", 14);
        counts("[2 + 3] * 4", 20);
        counts("20 - 3 - 4", 13);
        counts("20 - [3 - 4]", 21);
        counts("60 / 5 / 2", 6);
        counts("60 / 5 * 2", 24);
        counts("7 * 8 % 10", 6);
        counts("17 % 5", 2);
        counts("50 + [0 - 17] % 5", 48);
        counts("50 + [0 - 17] / 5", 47);
        counts("50 + 17 / [0 - 5]", 47);
        counts("50 + 17 % [0 - 5]", 52);
        counts("1 + 2 - 3 + 4 * 5 % 7 - 6 / 4", 5);
    }

    private static void test(String test, int want) {
        GladBasket b = basket();
        Due.enforce(b, "bars if " + test);
        due.is(4, "bars if " + test, b.asks(1, 3), want);
    }

    private static void tests() {
        test("1 < 2", 1);
        test("2 < 2", 0);
        test("3 > 2", 1);
        test("2 > 2", 0);
        test("2 = 2", 1);
        test("2 = 3", 0);
        test("not 2 = 3", 1);
        test("not not 2 = 3", 0);
        test("not not not 2 = 3", 1);
        test("not (not 2 = 3)", 0);
        test("not (not 2 = 2)", 1);
        test("not 2 = 3 and 1 = 2", 0);
        test("not (2 = 3 and 1 = 2)", 1);
        test("1 = 1 or 1 = 2 and 1 = 3", 1);
        test("(1 = 1 or 1 = 2) and 1 = 3", 0);
        test("1 = 2 or 1 = 3 or 1 = 1", 1);
        test("1 = 2 or 1 = 3 or 1 = 4", 0);
        test("1 = 1 and 2 = 2 and 3 = 3", 1);
        test("1 = 1 and 2 = 2 and 3 = 4", 0);
        test("1 = 2 and 2 = 2 or 3 = 3", 1);
        test("not (1 = 2 or 2 = 2) or 3 < 2", 0);
        test("good = 1 and month > 76 and mood + 1 = 9", 1);
    }

    private static void broken() {
        counts("1 / 0", 42);
        counts("1 % 0", 42);
        counts("0 / 0", 42);
        counts("1000 * 1000 * 1000 / 1000 / 1000 / 1000", 1);
        counts("[1000 * 1000 * 1000 + 1] / 1000 / 1000 / 1000", 42);
        counts("50 + [0 - 1000 * 1000 * 1000] / 1000 / 1000 / 1000", 49);
        counts("50 + [0 - 1000 * 1000 * 1000 - 1] / 1000 / 1000 / 1000", 42);
        counts("1000 * 1000 * 1000 * 1000 * 0", 42);
        counts("0 * [1 / 0]", 42);
        test("1 / 0 = 1", 0);
        test("not 1 / 0 = 1", 0);
        test("1 = 1 or 1 / 0 = 1", 1);
        test("1 / 0 = 1 or 1 = 1", 0);
        test("1 = 2 or 1 / 0 = 1", 0);
        test("1 = 2 and 1 / 0 = 1 or 1 = 1", 1);
        test("1 = 1 and 1 / 0 = 1 or 1 = 1", 0);
        test("1 = 1 and not (1 = 2 and 1 / 0 = 1)", 1);
        test("1 = 1 or 1 = 2 or 1 / 0 = 1", 1);
        test("1 = 1 or 1 / 0 = 1 or 1 / 0 = 1", 1);
        test("1 = 2 and 1 / 0 = 1 and 1 / 0 = 1", 0);
        test("not (1 = 2 and 1 / 0 = 1 and 1 / 0 = 1)", 1);
        test("(1 = 1 or 1 / 0 = 1) and 2 = 2", 1);
    }

    private static void lastThatHolds() {
        GladBasket b = basket();
        Due.enforce(b, "counts 1; counts 2; counts 3 if good = 0; counts 4 if 1 / 0 = 1; counts 1 / 0");
        due.is(4, "the last that HOLDS of 0", b.asks(0, 1), 3);
        due.is(4, "the last that HOLDS of 1", b.asks(1, 1), 2);
        b = basket();
        Due.enforce(b, "bars; bars if 1 = 2; moves 1; moves 2 if 1 = 2; glads 1; glads 2; glads 3 if 1 = 2");
        due.is(4, "bars, though the last does not HOLD", b.asks(1, 3), 1);
        due.is(4, "moves", b.asks(1, 0), 1);
        due.is(4, "glads", b.asks(1, 2), 2);
        due.is(4, "counts without", b.asks(1, 1), 42);
        b = basket();
        Due.enforce(b, "counts 1;".repeat(11) + "counts now + 3 if good = 1");
        due.is(4, "the twelfth of 0", b.asks(0, 1), 1);
        due.is(4, "the twelfth of 1", b.asks(1, 1), 14);
        b = basket();
        Due.enforce(b, "bars if good = 0");
        due.is(4, "bars 0", b.asks(0, 3), 1);
        due.is(4, "bars 1", b.asks(1, 3), 0);
        due.is(4, "moves without", b.asks(1, 0), 0);
        due.is(4, "glads without", b.asks(1, 2), 5);
    }

    private static void bounds() {
        String[] sums = {"0 - 10", "0 - 9", "0 - 1", "9", "10", "99", "100", "1000 * 1000 * 1000"};
        int[] moves = {-9, -9, -1, 9, 9, 9, 9, 9};
        int[] counts = {0, 0, 0, 9, 10, 99, 99, 99};
        int[] glads = {0, 0, 0, 9, 9, 9, 9, 9};
        for (int i = 0; i < sums.length; i++) {
            GladBasket b = basket();
            Due.enforce(b, "moves " + sums[i] + ";counts " + sums[i] + ";glads " + sums[i]);
            due.is(4, "moves " + sums[i], b.asks(1, 0), moves[i]);
            due.is(4, "counts " + sums[i], b.asks(1, 1), counts[i]);
            due.is(4, "glads " + sums[i], b.asks(1, 2), glads[i]);
        }
        GladBasket b = basket();
        due.is(4, "asks(2, 0)", b.asks(2, 0), GladBasket.NOTHING);
        due.is(4, "asks(-1, 0)", b.asks(-1, 0), GladBasket.NOTHING);
        due.is(4, "asks(0, 4)", b.asks(0, 4), GladBasket.NOTHING);
        due.is(4, "asks(0, -1)", b.asks(0, -1), GladBasket.NOTHING);
        due.is(4, "asks(MIN, MAX)", b.asks(Integer.MIN_VALUE, Integer.MAX_VALUE), GladBasket.NOTHING);
    }

    private static void lacking() {
        GladBasket b = basket();
        Due.enforce(b, "counts 7; moves 1; glads 2");
        b.lack(1);
        due.is(4, "what LACKS without a STAND-IN COUNTS 0", b.asks(1, 1), 0);
        due.is(4, "and MOVES", b.asks(1, 0), 1);
        due.is(4, "and makes GLAD", b.asks(1, 2), 2);
        b.stand(1, 0);
        due.is(4, "with one it COUNTS by law", b.asks(1, 1), 7);
        b.lack(0);
        due.is(4, "with one that LACKS too", b.asks(1, 1), 7);
        due.is(4, "that one COUNTS 0", b.asks(0, 1), 0);
    }
}
