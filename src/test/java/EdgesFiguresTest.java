import java.io.IOException;

/** Edges of prices and FIGURES (Terms III), and of promises 23 to 25, 34, 35. */
public final class EdgesFiguresTest {
    private static final int NONE = GladBasket.NONE;
    private static final int NOTHING = GladBasket.NOTHING;
    private static final int MIN = Edge.MIN;
    private static final int MAX = Edge.MAX;
    private static Edge edge;

    public static void main(String[] args) throws IOException {
        edge = new Edge("EdgesFiguresTest");
        pricesOfOneThatLacks();
        lowestTerms();
        nothingCounts();
        together();
        theMean();
        greatestAndLeast();
        figureNone();
        turned();
        turnedNone();
        pension();
        does();
        compared();
        edge.finish();
    }

    private static void figure(GladBasket b, int rule, long above, long below) {
        edge.is("figure(" + rule + ", 0)", b.figure(rule, 0), above);
        edge.is("figure(" + rule + ", 1)", b.figure(rule, 1), below);
    }

    private static void turned(GladBasket b, int rule, long above, long below) {
        edge.is("turned(" + rule + ", 0)", b.turned(rule, 0), above);
        edge.is("turned(" + rule + ", 1)", b.turned(rule, 1), below);
    }

    /** GOODS by BASE, NOW, WEIGHT. */
    private static GladBasket basket(int... numbers) {
        GladBasket b = new GladBasket();
        for (int i = 0; i + 2 < numbers.length; i += 3) {
            b.good(numbers[i], numbers[i + 1], numbers[i + 2], 0, 0);
        }
        return b;
    }

    private static void pricesOfOneThatLacks() {
        edge.says("A GOOD that LACKS has the prices of its STAND-IN (BASE and NOW, also if that LACKS too; without one it is "
                + "out: it COUNTS 0); all others their own.");
        GladBasket b = basket(2, 4, 3, 5, 6, 1, 1, 12, 2);
        b.stand(0, 1);
        b.stand(1, 2);
        // 12 + 6 + 24 by 6 + 5 + 2
        figure(b, 0, 42, 13);
        b.lack(0);
        // 18 + 6 + 24 by 15 + 5 + 2
        figure(b, 0, 24, 11);
        b.lack(1);
        // GOOD 0 has the prices of 1, though 1 has those of 2: 18 + 12 + 24 by 15 + 1 + 2
        figure(b, 0, 3, 1);
        b.lack(2);
        // GOOD 2 is out, and stands in all the same: 18 + 12 by 15 + 1
        figure(b, 0, 15, 8);
        edge.is("asks(2, 1)", b.asks(2, 1), 0);
        edge.is("asks(1, 1)", b.asks(1, 1), 1);
        b.stand(1, NONE);
        figure(b, 0, 6, 5);
        b.stand(0, NONE);
        figure(b, 0, 0, 1);
        b.find(0);
        figure(b, 0, 2, 1);
        b.stand(0, 2);
        figure(b, 0, 2, 1);
        b.lack(0);
        b.stand(2, 0);
        // Each stands in for the other: 3 * 12 + 2 * 4 by 3 * 1 + 2 * 2
        figure(b, 0, 44, 7);
        edge.is("of(0, 1) is its own", b.of(0, 1), 4);
        edge.is("of(0, 0) is its own", b.of(0, 0), 2);
    }

    private static void lowestTerms() {
        edge.says("FIGURES by RULES, as fractions in lowest terms (0 by 1, if nothing COUNTS)");
        figure(basket(12, 6, 99), 0, 1, 2);
        figure(basket(12, 12, 99), 0, 1, 1);
        figure(basket(1, 12, 1), 0, 12, 1);
        figure(basket(12, 1, 1), 0, 1, 12);
        figure(basket(12, 8, 7), 1, 2, 3);
        figure(basket(10, 4, 7), 2, 2, 5);
        figure(basket(4, 10, 7), 3, 5, 2);
        GladBasket all = basket(12, 12, 99, 12, 12, 99, 12, 12, 99, 12, 12, 99, 12, 12, 99, 12, 12, 99, 12, 12, 99, 12, 12, 99);
        for (int rule = 0; rule < 4; rule++) {
            figure(all, rule, 1, 1);
        }
    }

    private static void nothing(String what, GladBasket b) {
        for (int rule = 0; rule < 4; rule++) {
            edge.is(what + ": figure(" + rule + ", 0)", b.figure(rule, 0), 0);
            edge.is(what + ": figure(" + rule + ", 1)", b.figure(rule, 1), 1);
            edge.is(what + ": turned(" + rule + ", 0)", b.turned(rule, 0), 0);
            edge.is(what + ": turned(" + rule + ", 1)", b.turned(rule, 1), 1);
        }
        edge.is(what + ": pension()", b.pension(), 100);
        for (int good = 0; good < b.count(0); good++) {
            edge.is(what + ": does(" + good + ")", b.does(good), 0);
        }
    }

    private static void nothingCounts() {
        edge.says("(0 by 1, if nothing COUNTS)");
        nothing("no GOODS", new GladBasket());
        nothing("WEIGHTS of 0", basket(1, 12, 0, 12, 1, 0));
        GladBasket b = basket(1, 12, 9, 12, 1, 9);
        b.lack(0);
        b.lack(1);
        nothing("all LACK without STAND-INS", b);
        b = basket(1, 12, 9, 12, 1, 9);
        Due.enforce(b, "counts 0");
        nothing("by a LAW", b);
        b = basket(1, 12, 9, 12, 1, 9);
        Due.enforce(b, "counts 0-5");
        nothing("below 0 by a LAW", b);
        b = basket(1, 12, 0);
        Due.enforce(b, "counts 1");
        figure(b, 0, 12, 1);
    }

    private static void together() {
        edge.says("0 NOW times what it COUNTS, of all GOODS together, by BASE times that");
        figure(basket(3, 5, 2, 7, 4, 1, 12, 1, 0), 0, 14, 13);
        figure(basket(3, 5, 99, 7, 4, 1), 0, 499, 304);
    }

    private static void theMean() {
        edge.says("1 the mean of NOW by BASE, each as often as it COUNTS");
        figure(basket(3, 5, 1), 1, 5, 3);
        figure(basket(3, 5, 99), 1, 5, 3);
        // (5/3 + 3 * 4/7) / 4 = (35 + 36) / 84
        figure(basket(3, 5, 1, 7, 4, 3), 1, 71, 84);
        figure(basket(3, 5, 1, 7, 4, 3, 1, 12, 0), 1, 71, 84);
        // All BASES of which the lowest common one is 27720.
        GladBasket b = basket(12, 1, 99, 11, 1, 98, 10, 1, 97, 9, 1, 96, 8, 1, 95, 7, 1, 94, 5, 1, 93, 6, 1, 92);
        long above = 27720 / 12 * 99 + 27720 / 11 * 98 + 27720 / 10 * 97 + 27720 / 9 * 96 + 27720 / 8 * 95
                + 27720 / 7 * 94 + 27720 / 5 * 93 + 27720 / 6 * 92;
        long below = 27720L * (99 + 98 + 97 + 96 + 95 + 94 + 93 + 92);
        long common = common(above, below);
        figure(b, 1, above / common, below / common);
    }

    private static long common(long a, long b) {
        return b == 0 ? a : common(b, a % b);
    }

    private static void greatestAndLeast() {
        edge.says("2 the greatest NOW by BASE of those that COUNT 1 or more; 3 the least");
        GladBasket b = basket(1, 12, 0, 5, 6, 1, 7, 7, 1, 12, 1, 0);
        figure(b, 2, 6, 5);
        figure(b, 3, 1, 1);
        b.weigh(0, 1);
        figure(b, 2, 12, 1);
        b.weigh(3, 1);
        figure(b, 3, 1, 12);
        // 11/12 and 10/11: 121 and 120 by 132
        b = basket(12, 11, 1, 11, 10, 1);
        figure(b, 2, 11, 12);
        figure(b, 3, 10, 11);
        b = basket(11, 10, 1, 12, 11, 1);
        figure(b, 2, 11, 12);
        figure(b, 3, 10, 11);
        // Two of the same
        b = basket(2, 4, 1, 6, 12, 1);
        figure(b, 2, 2, 1);
        figure(b, 3, 2, 1);
    }

    private static void figureNone() {
        edge.promises(23, "A FIGURE by RULE 0 .. 3, above (what 0), below (1). NONE.");
        for (int wrong : new int[] {-1, 4, MIN, MAX}) {
            edge.leavesAll("figure(" + wrong + ", 0)", NONE, x -> x.figure(wrong, 0));
        }
        for (int wrong : new int[] {-1, 2, MIN, MAX}) {
            edge.leavesAll("figure(0, " + wrong + ")", NONE, x -> x.figure(0, wrong));
        }
        edge.leavesAll("figure(3, 1) of an empty basket", Edge.EMPTY, 1, x -> x.figure(3, 1));
        edge.leavesAll("figure(0, 0) of an empty basket", Edge.EMPTY, 0, x -> x.figure(0, 0));
    }

    private static void turned() {
        edge.says("TURNED by a RULE: its FIGURE times the FIGURE of the same with BASE and NOW changed, in lowest terms (0 by "
                + "1, if nothing COUNTS).");
        GladBasket b = basket(7, 11, 4);
        for (int rule = 0; rule < 4; rule++) {
            turned(b, rule, 1, 1);
        }
        b = basket(2, 4, 1, 6, 3, 1, 1, 12, 0);
        turned(b, 0, 1, 1);
        // (2 + 1/2) / 2 times (1/2 + 2) / 2
        turned(b, 1, 25, 16);
        turned(b, 2, 4, 1);
        turned(b, 3, 1, 4);
        b = basket(1, 12, 1, 12, 1, 1);
        turned(b, 2, 144, 1);
        turned(b, 3, 1, 144);
    }

    private static void turnedNone() {
        edge.promises(24, "TURNED by RULE 0 .. 3, above (what 0), below (1). NONE.");
        for (int wrong : new int[] {-1, 4, MIN, MAX}) {
            edge.leavesAll("turned(" + wrong + ", 0)", NONE, x -> x.turned(wrong, 0));
        }
        for (int wrong : new int[] {-1, 2, MIN, MAX}) {
            edge.leavesAll("turned(0, " + wrong + ")", NONE, x -> x.turned(0, wrong));
        }
        edge.leavesAll("turned(3, 1) of an empty basket", Edge.EMPTY, 1, x -> x.turned(3, 1));
        edge.leavesAll("turned(0, 0) of an empty basket", Edge.EMPTY, 0, x -> x.turned(0, 0));
    }

    private static void pension() {
        edge.says("PENSION: 100 times FIGURE 0, cut (100, if nothing COUNTS).");
        edge.promises(25, "PENSION.");
        edge.is("1/12, the least", basket(12, 1, 99).pension(), 8);
        edge.is("12, the greatest", basket(1, 12, 99).pension(), 1200);
        edge.is("2/3, cut", basket(3, 2, 1).pension(), 66);
        edge.is("5/3, cut", basket(3, 5, 1).pension(), 166);
        edge.is("199/200 to 1", basket(10, 10, 99, 10, 9, 1).pension(), 99);
        edge.is("1", basket(7, 7, 1).pension(), 100);
        edge.is("nothing COUNTS", basket(1, 12, 0).pension(), 100);
        GladBasket b = basket(3, 2, 1, 1, 12, 0);
        Due.enforce(b, "counts good");
        edge.is("what COUNTS by the LAW in FORCE", b.pension(), 1200);
        b.force(NONE);
        edge.is("what COUNTS by none", b.pension(), 66);
        edge.leavesAll("pension() of an empty basket", Edge.EMPTY, 100, x -> x.pension());
        edge.leavesAll("pension() of a basket in use", Edge.MIDDLE, Edge.made(Edge.MIDDLE).pension(), x -> x.pension());
    }

    private static void does() {
        edge.says("DOES: by how much FIGURE 0 in thousandths (cut) is more (or less) than without that GOOD (as if it COUNTED "
                + "0; 0 thousandths, if nothing COUNTS).");
        edge.promises(34, "DOES. NOTHING.");
        for (int good : new int[] {-1, 8, MIN, MAX}) {
            edge.leavesAll("does(" + good + ")", NOTHING, x -> x.does(good));
        }
        edge.leavesAll("one GOOD beyond", Edge.MIDDLE, NOTHING, x -> x.does(5));
        edge.leavesAll("no GOOD", Edge.EMPTY, NOTHING, x -> x.does(0));
        edge.is("the only one", basket(3, 2, 1).does(0), 666);
        edge.is("the only one that COUNTS", basket(3, 2, 1, 1, 12, 0).does(0), 666);
        edge.is("one that COUNTS 0", basket(3, 2, 1, 1, 12, 0).does(1), 0);
        // 7/6 is 1166, 5/3 is 1666, 2/3 is 666: each is cut ahead of what is taken off
        GladBasket b = basket(3, 5, 1, 3, 2, 1);
        edge.is("more", b.does(0), 1166 - 666);
        edge.is("less", b.does(1), 1166 - 1666);
        b = basket(12, 1, 99, 1, 12, 99);
        edge.is("far more", b.does(1), 1000 - 83);
        edge.is("far less", b.does(0), 1000 - 12000);
        b.lack(0);
        edge.is("one that is out", b.does(0), 0);
        edge.is("then the other is the only one", b.does(1), 12000);
        b.stand(0, 1);
        edge.is("one that stands in is still there for the other", b.does(1), 0);
    }

    private static void compared() {
        edge.says("COMPARED: FIGURE 0 in thousandths by a LAW in place of that in FORCE (NONE: none).");
        edge.promises(35, "COMPARED. NONE (no such LAW).");
        for (int law : new int[] {-2, 6, MIN, MAX}) {
            edge.leavesAll("compare(" + law + ")", NONE, x -> x.compare(law));
        }
        edge.leavesAll("one LAW beyond", Edge.MIDDLE, NONE, x -> x.compare(2));
        edge.leavesAll("no LAW", Edge.EMPTY, NONE, x -> x.compare(0));
        edge.leavesAll("by none, of an empty basket", Edge.EMPTY, 0, x -> x.compare(NONE));
        edge.leavesAll("by a LAW by which nothing COUNTS", Edge.FULL, 0, x -> x.compare(0));
        GladBasket b = basket(3, 2, 1, 3, 5, 0);
        Due.enforce(b, "counts 1");
        Due.law(b, "counts good");
        edge.is("by none", b.compare(NONE), 666);
        edge.is("by the one in FORCE", b.compare(0), 1166);
        edge.is("by the last", b.compare(1), 1666);
        edge.is("one beyond", b.compare(2), NONE);
        edge.is("count(12) stays", b.count(12), 0);
    }
}
