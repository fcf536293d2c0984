import java.io.IOException;
import java.util.Arrays;

/** Edges of what is found on paper (Terms III), and of promises 26 to 30, 33, 36. */
public final class EdgesPaperTest {
    private static final int NONE = GladBasket.NONE;
    private static final int NOTHING = GladBasket.NOTHING;
    private static final int MIN = Edge.MIN;
    private static final int MAX = Edge.MAX;
    private static Edge edge;

    public static void main(String[] args) throws IOException {
        edge = new Edge("EdgesPaperTest");
        ofEachUpToNine();
        notLackingNotBarred();
        leastCost();
        allAmounts();
        glad();
        through();
        firstRound();
        allRounds();
        round();
        justSo();
        spent();
        toAsk();
        ask();
        fair();
        trend();
        twoAtLeast();
        gets();
        cut();
        nothingIsLeft();
        fewerGoods();
        edge.finish();
    }

    /** GOODS by NOW, GLAD. */
    private static GladBasket wares(int... numbers) {
        GladBasket b = new GladBasket();
        for (int i = 0; i + 1 < numbers.length; i += 2) {
            b.good(1, numbers[i], 1, numbers[i + 1], 0);
        }
        return b;
    }

    /** GOODS by their PLACES, each of WEIGHT 1. */
    private static GladBasket places(int... places) {
        GladBasket b = new GladBasket();
        for (int place : places) {
            b.good(1, 1, 1, 1, place);
        }
        return b;
    }

    // ---- As GLAD

    private static void cheapest(GladBasket b, int n, int cost, int... amounts) {
        edge.is("glad(" + n + ", 0)", b.glad(n, 0), cost);
        for (int good = 0; good < b.count(0); good++) {
            edge.is("glad(" + n + ", " + (1 + good) + ")", b.glad(n, 1 + good), cost == NONE ? NONE : amounts[good]);
        }
    }

    private static void ofEachUpToNine() {
        edge.says("(On paper:) as GLAD: of each GOOD that does not LACK, is not BARRED 0 .. 9, so that together they make GLAD by n or more");
        cheapest(wares(2, 1), 9, 18, 9);
        cheapest(wares(2, 1), 10, NONE);
        cheapest(wares(2, 9), 81, 18, 9);
        cheapest(wares(2, 9), 82, NONE);
        cheapest(wares(2, 9, 3, 2), 99, 45, 9, 9);
        cheapest(wares(2, 9, 3, 1), 90, 45, 9, 9);
        cheapest(wares(2, 9, 3, 1), 91, NONE);
        cheapest(wares(2, 9), 73, 18, 9);
        cheapest(wares(2, 9), 72, 16, 8);
        cheapest(wares(2, 0), 0, 0, 0);
        cheapest(wares(2, 0), 1, NONE);
        cheapest(wares(12, 9), 1, 12, 1);
        cheapest(wares(), 0, 0);
        cheapest(wares(), 1, NONE);
        GladBasket dear = wares(12, 1, 12, 1, 12, 1, 12, 1, 12, 1, 12, 1, 12, 1, 12, 1);
        cheapest(dear, 72, 864, 9, 9, 9, 9, 9, 9, 9, 9);
        cheapest(dear, 73, NONE);
        cheapest(dear, 1, 12, 0, 0, 0, 0, 0, 0, 0, 1);
        cheapest(dear, 10, 120, 0, 0, 0, 0, 0, 0, 1, 9);
    }

    private static void notLackingNotBarred() {
        edge.says("that does not LACK, is not BARRED");
        GladBasket b = wares(1, 9, 2, 9, 3, 9);
        cheapest(b, 9, 1, 1, 0, 0);
        b.lack(0);
        cheapest(b, 9, 2, 0, 1, 0);
        b.stand(0, 2);
        cheapest(b, 9, 2, 0, 1, 0);
        Due.enforce(b, "bars if good=1");
        cheapest(b, 9, 3, 0, 0, 1);
        Due.enforce(b, "bars");
        cheapest(b, 9, NONE);
        cheapest(b, 1, NONE);
        cheapest(b, 0, 0, 0, 0, 0);
        b.force(NONE);
        b.lack(1);
        b.lack(2);
        cheapest(b, 1, NONE);
        cheapest(b, 0, 0, 0, 0, 0);
        b = wares(1, 9, 5, 0);
        Due.enforce(b, "glads 0 if good=0;glads 3 if good=1");
        cheapest(b, 27, 45, 0, 9);
        cheapest(b, 28, NONE);
    }

    private static void leastCost() {
        edge.says("the least they cost NOW; the first row of how many by GOODS");
        cheapest(wares(2, 1, 2, 1), 3, 6, 0, 3);
        cheapest(wares(2, 1, 2, 1), 12, 24, 3, 9);
        cheapest(wares(2, 1, 4, 2), 4, 8, 0, 2);
        cheapest(wares(4, 2, 2, 1), 4, 8, 0, 4);
        cheapest(wares(1, 1, 2, 2, 3, 3), 6, 6, 0, 0, 2);
        cheapest(wares(3, 3, 2, 2, 1, 1), 6, 6, 0, 0, 6);
        cheapest(wares(3, 3, 2, 2, 1, 1), 12, 12, 0, 2, 8);
        // More than is asked for, if that costs less
        cheapest(wares(4, 4, 5, 9), 8, 5, 0, 1);
        cheapest(wares(4, 4, 5, 9), 10, 9, 1, 1);
        cheapest(wares(4, 4, 5, 9), 14, 10, 0, 2);
    }

    /** Every n upwards and downwards of the same object, against all rows there are. */
    private static void allAmounts() {
        int[][] wares = {{4, 4, 5, 9, 1, 1}, {12, 9, 7, 5, 3, 2}, {2, 1, 2, 1, 4, 2}, {3, 8, 9, 0, 5, 7}, {6, 9, 6, 9, 2, 3}};
        for (int[] each : wares) {
            GladBasket b = wares(each);
            for (int i = 0; i < 200; i++) {
                int n = i < 100 ? 99 - i : i - 100;
                int[] row = firstRow(each, n);
                edge.is("glad(" + n + ", 0)", b.glad(n, 0), row == null ? NONE : costOf(each, row));
                edge.is("glad(" + n + ", " + (1 + n % 3) + ")", b.glad(n, 1 + n % 3), row == null ? NONE : row[n % 3]);
            }
        }
    }

    private static int[] firstRow(int[] wares, int n) {
        int[] best = null;
        for (int i = 0; i < 1000; i++) {
            int[] row = {i / 100, i / 10 % 10, i % 10};
            int glad = row[0] * wares[1] + row[1] * wares[3] + row[2] * wares[5];
            if (glad >= n && (best == null || costOf(wares, row) < costOf(wares, best))) {
                best = row;
            }
        }
        return best;
    }

    private static int costOf(int[] wares, int[] row) {
        return row[0] * wares[0] + row[1] * wares[2] + row[2] * wares[4];
    }

    private static void glad() {
        edge.promises(26, "As GLAD by n 0 .. 99: what it costs (what 0), how many of GOOD g (1 + g). NONE (it can't be).");
        for (int n : new int[] {-1, 100, MIN, MAX}) {
            edge.leavesAll("glad(" + n + ", 0)", NONE, x -> x.glad(n, 0));
        }
        for (int what : new int[] {-1, 9, MIN, MAX}) {
            edge.leavesAll("glad(0, " + what + ")", NONE, x -> x.glad(0, what));
        }
        edge.leavesAll("one GOOD beyond", Edge.MIDDLE, NONE, x -> x.glad(0, 6));
        edge.leavesAll("the last GOOD", Edge.MIDDLE, 0, x -> x.glad(0, 5));
        edge.leavesAll("no GOOD", Edge.EMPTY, NONE, x -> x.glad(0, 1));
        edge.leavesAll("glad(0, 0)", 0, x -> x.glad(0, 0));
        edge.leavesAll("glad(1, 0) of no GOODS", Edge.EMPTY, NONE, x -> x.glad(1, 0));
        edge.is("n 99, the last", wares(1, 9, 1, 9).glad(99, 0), 11);
    }

    // ---- A ROUND

    private static void way(GladBasket b, int place, int steps, int... goods) {
        edge.is("round(" + place + ", NONE)", b.round(place, NONE), steps);
        for (int i = 0; i < goods.length; i++) {
            edge.is("round(" + place + ", " + i + ")", b.round(place, i), goods[i]);
        }
        edge.is("one more than there are", b.round(place, goods.length), NONE);
    }

    private static void through() {
        edge.says("A ROUND from a PLACE: through the PLACES of all GOODS that COUNT 1 or more (of STAND-INS for those that "
                + "LACK): the fewest STEPS");
        way(places(), 0, 0);
        GladBasket b = places(24, 4);
        way(b, 0, 8, 1, 0);
        b.weigh(0, 0);
        way(b, 0, 4, 1);
        b.weigh(1, 0);
        way(b, 0, 0);
        b.weigh(0, 1);
        b.lack(0);
        way(b, 0, 0);
        b.stand(0, 1);
        way(b, 0, 4, 0);
        b.lack(1);
        way(b, 0, 4, 0);
        Due.enforce(b, "counts 0");
        way(b, 0, 0);
        Due.enforce(b, "counts 1;bars");
        way(b, 0, 4, 0);
        b.find(0);
        way(b, 0, 8, 0);
    }

    private static void firstRound() {
        edge.says("the first as a row of these GOODS");
        way(places(24, 24, 24), 0, 8, 0, 1, 2);
        way(places(0, 24), 12, 12, 0, 1);
        way(places(24, 0), 12, 12, 0, 1);
        // 2 and 10 are each two STEPS from 0 and four from one another
        way(places(10, 2), 0, 6, 0, 1);
        way(places(2, 10), 0, 6, 0, 1);
        way(places(24, 4, 0, 20), 12, 16, 0, 1, 2, 3);
        way(places(0, 0, 0, 0, 0, 0, 0, 0), 0, 0, 0, 1, 2, 3, 4, 5, 6, 7);
        way(places(7, 6, 5, 4, 3, 2, 1, 0), 0, 8, 2, 7, 6, 1, 0, 5, 4, 3);
    }

    /** From every PLACE, against all rows there are. */
    private static void allRounds() {
        int[][] places = {{3, 21, 9, 14}, {24, 0, 12, 7}, {20, 4, 22, 2, 10}, {1, 5, 23, 19, 12}, {8, 8, 16, 0}};
        for (int[] each : places) {
            for (int from = 0; from < 25; from++) {
                int[] row = firstWay(each, from, new int[0], null);
                way(places(each), from, stepsOf(each, from, row), row);
            }
        }
    }

    private static int[] firstWay(int[] places, int from, int[] begun, int[] best) {
        if (begun.length == places.length) {
            return best == null || stepsOf(places, from, begun) < stepsOf(places, from, best) ? begun : best;
        }
        int[] found = best;
        for (int good = 0; good < places.length; good++) {
            int next = good;
            if (Arrays.stream(begun).noneMatch(g -> g == next)) {
                int[] longer = Arrays.copyOf(begun, begun.length + 1);
                longer[begun.length] = good;
                found = firstWay(places, from, longer, found);
            }
        }
        return found;
    }

    private static int stepsOf(int[] places, int from, int[] row) {
        int steps = 0;
        int here = from;
        for (int good : row) {
            steps += Math.abs(here % 5 - places[good] % 5) + Math.abs(here / 5 - places[good] / 5);
            here = places[good];
        }
        return steps;
    }

    private static void round() {
        edge.promises(27, "A ROUND from a PLACE: STEPS (i NONE), the i-th GOOD. NONE.");
        for (int place : new int[] {-1, 25, MIN, MAX}) {
            edge.leavesAll("round(" + place + ", NONE)", NONE, x -> x.round(place, NONE));
            edge.leavesAll("round(" + place + ", 0)", NONE, x -> x.round(place, 0));
        }
        for (int i : new int[] {-2, 8, MIN, MAX}) {
            edge.leavesAll("round(0, " + i + ")", NONE, x -> x.round(0, i));
        }
        edge.leavesAll("no GOODS: no STEPS", Edge.EMPTY, 0, x -> x.round(24, NONE));
        edge.leavesAll("no GOODS: no first", Edge.EMPTY, NONE, x -> x.round(24, 0));
        GladBasket b = places(0, 24);
        edge.is("from PLACE 0", b.round(0, NONE), 8);
        edge.is("from PLACE 24", b.round(24, NONE), 8);
    }

    // ---- SPENT, to ASK

    private static void sets(GladBasket b, int cost, int glad, int... sets) {
        edge.is("spent(" + cost + ", " + glad + ", NONE)", b.spent(cost, glad, NONE), sets.length);
        for (int i = 0; i < sets.length; i++) {
            edge.is("spent(" + cost + ", " + glad + ", " + i + ")", b.spent(cost, glad, i), sets[i]);
        }
        edge.is("one more than there are", b.spent(cost, glad, sets.length), NONE);
    }

    private static void justSo() {
        edge.says("SPENT: sets of GOODS, each once, none LACKING, that cost so much NOW together and make GLAD by so much "
                + "together, just so; by bits.");
        sets(wares(), 0, 0, 0);
        sets(wares(), 0, 1);
        sets(wares(), 1, 0);
        GladBasket b = wares(2, 3, 1, 1, 3, 4);
        sets(b, 0, 0, 0);
        sets(b, 3, 4, 3, 4);
        sets(b, 3, 3);
        sets(b, 3, 5);
        sets(b, 2, 4);
        sets(b, 4, 4);
        sets(b, 4, 6);
        sets(b, 6, 8, 7);
        sets(b, 4, 5, 6);
        b.lack(0);
        sets(b, 3, 4, 4);
        sets(b, 2, 3);
        b.stand(0, 2);
        sets(b, 3, 4, 4);
        b.lack(1);
        b.lack(2);
        sets(b, 0, 0, 0);
        sets(b, 3, 4);
        GladBasket all = wares(12, 9, 12, 9, 12, 9, 12, 9, 12, 9, 12, 9, 12, 9, 12, 9);
        sets(all, 96, 72, 255);
        sets(all, 12, 9, 1, 2, 4, 8, 16, 32, 64, 128);
        edge.is("four of eight", all.spent(48, 36, NONE), 70);
        edge.is("the first of these", all.spent(48, 36, 0), 15);
        edge.is("the last of these", all.spent(48, 36, 69), 240);
        edge.is("one more", all.spent(48, 36, 70), NONE);
        sets(wares(1, 0), 1, 0, 1);
        b = wares(1, 0);
        Due.enforce(b, "glads 7");
        sets(b, 1, 7, 1);
        sets(b, 1, 0);
    }

    private static void spent() {
        edge.promises(28, "SPENT so much 0 .. 99 for GLAD 0 .. 99: how many sets (i NONE), the i-th, as bits. NONE.");
        for (int wrong : new int[] {-1, 100, MIN, MAX}) {
            edge.leavesAll("spent(" + wrong + ", 0, NONE)", NONE, x -> x.spent(wrong, 0, NONE));
            edge.leavesAll("spent(0, " + wrong + ", NONE)", NONE, x -> x.spent(0, wrong, NONE));
            edge.leavesAll("spent(" + wrong + ", 0, 0)", NONE, x -> x.spent(wrong, 0, 0));
        }
        for (int i : new int[] {-2, 1, 256, MIN, MAX}) {
            edge.leavesAll("spent(0, 0, " + i + ")", NONE, x -> x.spent(0, 0, i));
        }
        edge.leavesAll("none is bought by nothing", 1, x -> x.spent(0, 0, NONE));
        edge.leavesAll("its bits", 0, x -> x.spent(0, 0, 0));
        edge.leavesAll("spent(99, 99, NONE)", 0, x -> x.spent(99, 99, NONE));
        edge.leavesAll("spent(99, 99, 0)", NONE, x -> x.spent(99, 99, 0));
    }

    private static void asked(GladBasket b, int cost, int glad, int good, int left) {
        edge.is("ask(" + cost + ", " + glad + ", 0)", b.ask(cost, glad, 0), good);
        edge.is("ask(" + cost + ", " + glad + ", 1)", b.ask(cost, glad, 1), left);
    }

    private static void toAsk() {
        edge.says("To ASK: the GOOD by which the more of both (sets with it, without it) is least; the lowest.");
        GladBasket b = wares(2, 3, 1, 1, 3, 4, 2, 3);
        // {0, 1}, {2}, {1, 3}: each leaves two
        asked(b, 3, 4, 0, 2);
        // {0}, {3}: each that is in one leaves one
        asked(b, 2, 3, 0, 1);
        asked(b, 8, 11, 0, 1);
        // {1, 2} alone: all leave one
        asked(b, 4, 5, 0, 1);
        b.good(1, 3, 1, 4, 0);
        // {0, 1}, {2}, {1, 3}, {4}: 1 leaves two, the others three
        asked(b, 3, 4, 1, 2);
        GladBasket first = wares(9, 9, 1, 1, 1, 1);
        // {1}, {2}: GOOD 0 is in none and leaves two
        asked(first, 1, 1, 1, 1);
        asked(wares(1, 1), 1, 1, 0, 1);
        asked(wares(1, 1), 0, 0, 0, 1);
        GladBasket lacking = wares(1, 1, 1, 1);
        lacking.lack(0);
        // {1} alone: 0 and 1 leave one
        asked(lacking, 1, 1, 0, 1);
        GladBasket all = wares(1, 1, 1, 1, 1, 1, 1, 1);
        asked(all, 2, 2, 0, 3);
        asked(all, 4, 4, 0, 1);
        asked(all, 0, 0, 0, 1);
        asked(all, 1, 1, 0, 3);
        asked(all, 3, 3, 0, 3);
    }

    private static void ask() {
        edge.promises(29, "To ASK: the GOOD (what 0), how many sets are left at most (1). NONE (no sets, no GOODS).");
        for (int wrong : new int[] {-1, 100, MIN, MAX}) {
            edge.leavesAll("ask(" + wrong + ", 0, 0)", NONE, x -> x.ask(wrong, 0, 0));
            edge.leavesAll("ask(0, " + wrong + ", 0)", NONE, x -> x.ask(0, wrong, 0));
        }
        for (int what : new int[] {-1, 2, MIN, MAX}) {
            edge.leavesAll("ask(0, 0, " + what + ")", NONE, x -> x.ask(0, 0, what));
        }
        edge.leavesAll("no GOODS: the GOOD", Edge.EMPTY, NONE, x -> x.ask(0, 0, 0));
        edge.leavesAll("no GOODS: how many", Edge.EMPTY, NONE, x -> x.ask(0, 0, 1));
        edge.leavesAll("no sets: the GOOD", NONE, x -> x.ask(99, 99, 0));
        edge.leavesAll("no sets: how many", NONE, x -> x.ask(99, 99, 1));
        GladBasket all = wares(12, 9, 12, 9, 12, 9, 12, 9, 12, 9, 12, 9, 12, 9, 12, 9);
        asked(all, 96, 72, 0, 1);
        asked(all, 97, 72, NONE, NONE);
        asked(all, 96, 73, NONE, NONE);
        asked(all, 48, 36, 0, 35);
        asked(all, 84, 63, 0, 7);
        asked(all, 99, 72, NONE, NONE);
        GladBasket free = wares(1, 9, 1, 9, 1, 9, 1, 9, 1, 9, 1, 9, 1, 9, 1, 9);
        asked(free, 8, 72, 0, 1);
        asked(free, 7, 63, 0, 7);
        GladBasket dear = wares(12, 0, 12, 0, 12, 0, 12, 0, 12, 0, 12, 0, 12, 0, 12, 0);
        asked(dear, 96, 0, 0, 1);
        asked(dear, 84, 0, 0, 7);
        edge.leavesAll("the empty set", Edge.FULL, 0, x -> x.ask(0, 0, 0));
        edge.leavesAll("the empty set", Edge.FULL, 1, x -> x.ask(0, 0, 1));
    }

    // ---- FAIR, a TREND, GETS

    private static GladBasket owners(int... owns) {
        GladBasket b = new GladBasket();
        b.good(1, 1, 1, 1, 1);
        for (int person = 0; person < owns.length; person++) {
            b.person();
            b.own(person, 0, owns[person]);
        }
        return b;
    }

    private static void weight(int weight, int off, int... owns) {
        GladBasket b = owners(owns);
        edge.is("fair(0, 0)", b.fair(0, 0), weight);
        edge.is("fair(0, 1)", b.fair(0, 1), off);
    }

    private static void fair() {
        edge.says("FAIR for a GOOD: the weight 0 .. 9 by which it is least off from all OWN together; the lowest; how much "
                + "that is.");
        edge.promises(30, "FAIR: the weight (what 0), how much it is off (1). NONE.");
        weight(0, 0);
        weight(9, 0, 9);
        weight(0, 0, 0);
        weight(0, 9, 9, 0);
        weight(0, 9, 0, 9);
        weight(3, 7, 9, 2, 3);
        weight(9, 9, 9, 9, 0);
        weight(4, 14, 9, 9, 4, 4, 0);
        weight(4, 5, 4, 9);
        weight(9, 0, 9, 9, 9, 9, 9);
        for (int good : new int[] {-1, 8, MIN, MAX}) {
            edge.leavesAll("fair(" + good + ", 0)", NONE, x -> x.fair(good, 0));
        }
        for (int what : new int[] {-1, 2, MIN, MAX}) {
            edge.leavesAll("fair(0, " + what + ")", NONE, x -> x.fair(0, what));
        }
        edge.leavesAll("one GOOD beyond", Edge.MIDDLE, NONE, x -> x.fair(5, 0));
        edge.leavesAll("the last GOOD", Edge.MIDDLE, 0, x -> x.fair(4, 0));
        edge.leavesAll("no GOOD", Edge.EMPTY, NONE, x -> x.fair(0, 0));
        GladBasket b = owners();
        edge.is("no PEOPLE: the weight", b.fair(0, 0), 0);
        edge.is("no PEOPLE: how much", b.fair(0, 1), 0);
    }

    private static void line(int riseAbove, int riseBelow, int startAbove, int startBelow, int... heard) {
        GladBasket b = new GladBasket();
        for (int figure : heard) {
            b.hear(figure);
        }
        edge.is("trend(0)", b.trend(0), riseAbove);
        edge.is("trend(1)", b.trend(1), riseBelow);
        edge.is("trend(2)", b.trend(2), startAbove);
        edge.is("trend(3)", b.trend(3), startBelow);
    }

    private static void trend() {
        edge.says("by least squares the rise in a month and what it would be in month 0, as fractions in lowest terms (what is "
                + "below above 0)");
        line(0, 1, 0, 1, 0, 0);
        line(999, 1, 0, 1, 0, 999);
        line(-999, 1, 999, 1, 999, 0);
        line(0, 1, 7, 1, 7, 7, 7, 7, 7, 7, 7, 7, 7, 7, 7, 7);
        line(3, 2, 21, 2, 10, 13, 13);
        line(-1, 2, 7, 6, 1, 1, 0);
        // months 0, 1, 2 and 0, 0, 999: the rise 999/2, the mean 333: 333 - 999/2
        line(999, 2, -333, 2, 0, 0, 999);
        line(1, 1, 0, 1, 0, 1, 2, 3, 4, 5, 6, 7, 8, 9, 10, 11);
        line(17982, 143, -4995, 26, 0, 0, 0, 0, 0, 0, 999, 999, 999, 999, 999, 999);
        line(-17982, 143, 30969, 26, 999, 999, 999, 999, 999, 999, 0, 0, 0, 0, 0, 0);
        edge.says("of months 0, 1, ..");
        line(1, 1, 500, 1, 500, 501);
        line(10, 1, 3, 1, 3, 13, 23, 33);
        line(-3, 1, 33, 1, 33, 30, 27, 24, 21, 18, 15, 12, 9, 6, 3, 0);
        GladBasket b = new GladBasket();
        b.terms(0, 40);
        b.hear(7);
        b.pass();
        b.pass();
        b.hear(9);
        edge.is("not by the MONTH in which it was HEARD: the rise", b.trend(0), 2);
        edge.is("not by the MONTH in which it was HEARD: in month 0", b.trend(2), 7);
        b.forget();
        b.hear(4);
        b.hear(5);
        edge.is("behind forget() from month 0 again", b.trend(2), 4);
    }

    private static void twoAtLeast() {
        edge.says("A TREND of HEARD (two at least)");
        edge.promises(33, "A TREND: the rise above (what 0), below (1), in month 0 above (2), below (3). NOTHING (fewer than "
                + "two).");
        GladBasket b = new GladBasket();
        for (int what = 0; what < 4; what++) {
            edge.is("of none: trend(" + what + ")", b.trend(what), NOTHING);
        }
        b.hear(5);
        for (int what = 0; what < 4; what++) {
            edge.is("of one: trend(" + what + ")", b.trend(what), NOTHING);
        }
        b.hear(4);
        edge.is("of two", b.trend(0), -1);
        edge.is("of two", b.trend(2), 5);
        for (int what : new int[] {-1, 4, MIN, MAX}) {
            edge.leavesAll("trend(" + what + ")", NOTHING, x -> x.trend(what));
        }
        edge.leavesAll("trend(0) of none", Edge.EMPTY, NOTHING, x -> x.trend(0));
    }

    private static final long ALL = 1000000000000L;

    private static GladBasket rising(int rises) {
        GladBasket b = new GladBasket();
        for (int now : new int[] {1, 2, 5, 9, 10, 11, 12}) {
            b.good(1, now, 1, 1, 1);
        }
        b.terms(1, rises);
        return b;
    }

    private static void gets() {
        edge.says("GETS: the chance, of 1,000,000,000,000 parts, that NOW of a GOOD is 12 behind n months in each of which it is "
                + "one more in RISES of ten (12 it stays)");
        edge.promises(36, "GETS in n months 0 .. 60. NONE.");
        for (int n : new int[] {-1, 61, MIN, MAX}) {
            edge.leavesAll("gets(0, " + n + ")", NONE, x -> x.gets(0, n));
        }
        for (int good : new int[] {-1, 8, MIN, MAX}) {
            edge.leavesAll("gets(" + good + ", 0)", NONE, x -> x.gets(good, 0));
        }
        edge.leavesAll("one GOOD beyond", Edge.MIDDLE, NONE, x -> x.gets(5, 0));
        edge.leavesAll("no GOOD", Edge.EMPTY, NONE, x -> x.gets(0, 0));
        for (int rises = 0; rises <= 10; rises++) {
            GladBasket b = rising(rises);
            edge.is("12 at once", b.gets(6, 0), ALL);
            edge.is("12 it stays", b.gets(6, 60), ALL);
            edge.is("11 in no month", b.gets(5, 0), 0);
            edge.is("11 in a month", b.gets(5, 1), ALL / 10 * rises);
            edge.is("10 in a month", b.gets(4, 1), 0);
            edge.is("10 in two months", b.gets(4, 2), ALL / 100 * rises * rises);
            edge.is("1 in ten months", b.gets(0, 10), 0);
            long eleven = 10;
            for (int i = 0; i < 11; i++) {
                eleven *= rises;
            }
            edge.is("1 in eleven months", b.gets(0, 11), eleven);
        }
        GladBasket sure = rising(10);
        edge.is("ten of ten", sure.gets(0, 60), ALL);
        edge.is("none of ten", rising(0).gets(5, 60), 0);
        GladBasket b = rising(5);
        b.lack(5);
        edge.is("one that LACKS", b.gets(5, 1), ALL / 2);
    }

    /** Where ten does not go into what is shared any more: both shares are cut. */
    private static void cut() {
        edge.says("each part is cut");
        for (int rises = 1; rises < 10; rises++) {
            GladBasket b = rising(rises);
            long left = ALL;
            long at = 0;
            for (int n = 0; n <= 60; n++) {
                edge.is("gets of 11 in " + n + " months", b.gets(5, n), at);
                at += left * rises / 10;
                left = left * (10 - rises) / 10;
            }
        }
    }

    // ---- One call after another

    private static final int CALLS = 60;

    private static long call(GladBasket b, int i) {
        switch (i % 12) {
            case 0: return b.glad(i * 37 % 100, 0);
            case 1: return b.glad(i * 37 % 100, i % 9);
            case 2: return b.round(i % 25, NONE);
            case 3: return b.round(i % 25, i % 8);
            case 4: return b.spent(i % 20, i % 12, NONE);
            case 5: return b.spent(i % 20, i % 12, i % 2);
            case 6: return b.ask(i % 20, i % 12, 0);
            case 7: return b.ask(i % 20, i % 12, 1);
            case 8: return b.trend(i % 4);
            case 9: return b.gets(i % 8, i);
            case 10: return b.figure(i % 4, i % 2);
            default: return b.turned(i % 4, i % 2);
        }
    }

    /** What one answers is what a new object answers, whatever was asked ahead of it. */
    private static void nothingIsLeft() {
        edge.says("(On paper:)");
        for (Edge.Scene scene : Edge.SCENES) {
            for (int step : new int[] {1, 7, 11, 13}) {
                GladBasket b = Edge.made(scene);
                for (int i = 0; i < CALLS; i++) {
                    int at = i * step % CALLS;
                    edge.is("call " + at + " behind others", call(b, at), call(Edge.made(scene), at));
                }
            }
        }
    }

    /** Behind back() to fewer GOODS nothing is found of those that are gone. */
    private static void fewerGoods() {
        edge.says("BACK to one all that it keeps is as it was then (IMAGES stay)");
        for (int left = 0; left < 4; left++) {
            int kept = left;
            Edge.Scene few = x -> {
                for (int good = 0; good < kept; good++) {
                    x.good(good + 2, 6 - good, good + 1, 2 * good + 1, 7 * good);
                }
            };
            GladBasket b = Edge.made(few);
            b.image(0);
            for (int good = kept; good < 8; good++) {
                b.good(1, 1, 9, 9, 12);
            }
            for (int i = 0; i < CALLS; i++) {
                call(b, i);
            }
            b.back(0);
            for (int i = 0; i < CALLS; i++) {
                edge.is("call " + i + " of " + kept + " GOODS", call(b, i), call(Edge.made(few), i));
            }
        }
    }
}
