/** Promises 23 to 25, 34, 35: FIGURES, TURNED, PENSION, DOES, COMPARED. */
public final class FiguresTest {
    private static final Due due = new Due("FiguresTest");

    public static void main(String[] args) {
        plain();
        nothingCounts();
        standIns();
        byLaw();
        great();
        doesAndCompare();
        wrongNumbers();
        due.finish();
    }

    private static void figure(GladBasket b, int rule, long above, long below) {
        due.is(23, "figure(" + rule + ", 0)", b.figure(rule, 0), above);
        due.is(23, "figure(" + rule + ", 1)", b.figure(rule, 1), below);
    }

    private static void turned(GladBasket b, int rule, long above, long below) {
        due.is(24, "turned(" + rule + ", 0)", b.turned(rule, 0), above);
        due.is(24, "turned(" + rule + ", 1)", b.turned(rule, 1), below);
    }

    private static void plain() {
        GladBasket b = new GladBasket();
        b.good(7, 11, 4, 0, 0);
        turned(b, 2, 1, 1);
        b.good(7, 5, 2, 0, 0);
        turned(b, 2, 11, 5);
        b = new GladBasket();
        b.good(7, 11, 4, 0, 0);
        figure(b, 0, 11, 7);
        b.good(5, 3, 6, 0, 0);
        b.good(12, 1, 0, 0, 0);
        figure(b, 0, 31, 29);
        // (4 * 11/7 + 6 * 3/5) / 10 = (44/7 + 18/5) / 10 = 346/350
        figure(b, 1, 173, 175);
        figure(b, 2, 11, 7);
        figure(b, 3, 3, 5);
        turned(b, 0, 1, 1);
        // (4 * 7/11 + 6 * 5/3) / 10 = (28/11 + 10) / 10 = 138/110; 173/175 * 69/55
        turned(b, 1, 173 * 69, 175 * 55);
        turned(b, 2, 55, 21);
        turned(b, 3, 21, 55);
        due.is(25, "pension()", b.pension(), 106);
        b.weigh(2, 99);
        figure(b, 3, 1, 12);
        due.is(25, "pension() below 100", b.pension(), 12);
    }

    private static void nothingCounts() {
        GladBasket b = new GladBasket();
        for (int times = 0; times < 2; times++) {
            for (int rule = 0; rule < 4; rule++) {
                figure(b, rule, 0, 1);
                turned(b, rule, 0, 1);
            }
            due.is(25, "pension() if nothing COUNTS", b.pension(), 100);
            due.is(35, "compare(NONE) if nothing COUNTS", b.compare(-1), 0);
            b.good(2, 9, 0, 0, 0);
        }
    }

    private static void standIns() {
        GladBasket b = new GladBasket();
        b.good(2, 4, 3, 0, 0);
        b.good(5, 6, 1, 0, 0);
        b.good(1, 12, 0, 0, 0);
        b.lack(0);
        figure(b, 0, 6, 5);
        figure(b, 2, 6, 5);
        figure(b, 3, 6, 5);
        b.stand(0, 1);
        figure(b, 0, 6, 5);
        b.stand(0, 2);
        figure(b, 0, 21, 4);
    }

    private static void byLaw() {
        GladBasket b = new GladBasket();
        b.good(2, 4, 3, 0, 0);
        b.good(5, 6, 1, 0, 0);
        Due.enforce(b, "counts now * base");
        // 4 * 8 + 6 * 30 = 212 by 2 * 8 + 5 * 30 = 166
        figure(b, 0, 106, 83);
        // what COUNTS stays as it is, when BASE and NOW are changed
        turned(b, 0, 1, 1);
        // (8 * 2 + 30 * 6/5) / 38 = 52/38; (8 * 1/2 + 30 * 5/6) / 38 = 29/38
        figure(b, 1, 26, 19);
        turned(b, 1, 13 * 29, 19 * 19);
        Due.enforce(b, "counts now");
        // 16 + 36 by 8 + 30
        figure(b, 0, 26, 19);
        turned(b, 0, 1, 1);
        due.is(25, "pension()", b.pension(), 136);
    }

    private static void great() {
        GladBasket b = new GladBasket();
        int[] bases = {12, 11, 10, 9, 8, 7, 5, 12};
        int[] nows = {11, 12, 9, 10, 7, 12, 12, 5};
        int[] weights = {99, 98, 97, 96, 95, 94, 93, 91};
        java.math.BigInteger[] f = {java.math.BigInteger.ZERO, java.math.BigInteger.ONE};
        java.math.BigInteger[] g = {java.math.BigInteger.ZERO, java.math.BigInteger.ONE};
        int all = 0;
        for (int i = 0; i < 8; i++) {
            b.good(bases[i], nows[i], weights[i], 0, 0);
            all += weights[i];
            add(f, weights[i] * nows[i], bases[i]);
            add(g, weights[i] * bases[i], nows[i]);
        }
        f[1] = f[1].multiply(java.math.BigInteger.valueOf(all));
        g[1] = g[1].multiply(java.math.BigInteger.valueOf(all));
        reduced(f);
        reduced(g);
        figure(b, 1, f[0].longValueExact(), f[1].longValueExact());
        f[0] = f[0].multiply(g[0]);
        f[1] = f[1].multiply(g[1]);
        reduced(f);
        turned(b, 1, f[0].longValueExact(), f[1].longValueExact());
    }

    private static void add(java.math.BigInteger[] f, int above, int below) {
        java.math.BigInteger under = java.math.BigInteger.valueOf(below);
        f[0] = f[0].multiply(under).add(f[1].multiply(java.math.BigInteger.valueOf(above)));
        f[1] = f[1].multiply(under);
    }

    private static void reduced(java.math.BigInteger[] f) {
        java.math.BigInteger d = f[0].gcd(f[1]);
        f[0] = f[0].divide(d);
        f[1] = f[1].divide(d);
    }

    private static void doesAndCompare() {
        GladBasket b = new GladBasket();
        b.good(7, 11, 4, 0, 0);
        due.is(34, "does() of the only one", b.does(0), 1571);
        b.good(5, 3, 6, 0, 0);
        b.good(12, 1, 0, 0, 0);
        // 62/58: 1068; without 0: 600; without 1: 1571
        due.is(34, "does(0)", b.does(0), 1068 - 600);
        due.is(34, "does(1)", b.does(1), 1068 - 1571);
        due.is(34, "does(2) that COUNTS 0", b.does(2), 0);
        due.is(34, "does(3)", b.does(3), GladBasket.NOTHING);
        due.is(34, "does(-1)", b.does(-1), GladBasket.NOTHING);
        due.is(35, "compare(NONE)", b.compare(-1), 1068);
        due.is(35, "compare(0) without LAWS", b.compare(0), -1);
        Due.law(b, "counts 1");
        Due.law(b, "counts 0");
        due.is(35, "compare(0)", b.compare(0), 625);
        due.is(35, "compare(1)", b.compare(1), 0);
        due.is(35, "compare(2)", b.compare(2), -1);
        due.is(35, "compare(-2)", b.compare(-2), -1);
        b.force(0);
        due.is(35, "compare(NONE) by none, though one is in FORCE", b.compare(-1), 1068);
        due.is(35, "count(12) is as it was", b.count(12), 0);
        due.is(34, "does(2) by the law", b.does(2), 625 - 1166);
        due.is(23, "figure(0, 0) behind does()", b.figure(0, 0), 5);
        b.force(1);
        due.is(34, "does(0) if nothing COUNTS", b.does(0), 0);
        b.force(-1);
        b.lack(0);
        due.is(34, "does(0) of one that is out", b.does(0), 0);
        b.stand(0, 2);
        // 4 * 1 + 18 by 48 + 30 is 282
        due.is(34, "does(0) by its STAND-IN", b.does(0), 282 - 600);
    }

    private static void wrongNumbers() {
        GladBasket b = new GladBasket();
        b.good(1, 2, 3, 4, 5);
        int[][] wrong = {{-1, 0}, {4, 0}, {0, -1}, {0, 2}, {Integer.MIN_VALUE, 0}, {0, Integer.MAX_VALUE}};
        for (int[] w : wrong) {
            due.is(23, "figure by a wrong number", b.figure(w[0], w[1]), -1);
            due.is(24, "turned by a wrong number", b.turned(w[0], w[1]), -1);
        }
        due.is(23, "count(7) does not count these", b.count(7), 0);
    }
}
