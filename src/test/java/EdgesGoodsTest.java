import java.io.IOException;

/** Edges of Terms I and of promises 1 to 8: the bounds of every number, how many there are, the order of refusals. */
public final class EdgesGoodsTest {
    private static final int NONE = GladBasket.NONE;
    private static final int MIN = Edge.MIN;
    private static final int MAX = Edge.MAX;
    private static Edge edge;

    public static void main(String[] args) throws IOException {
        edge = new Edge("EdgesGoodsTest");
        atFirst();
        boundsOfGoods();
        eightGoods();
        steps();
        people();
        owns();
        heard();
        terms();
        theFirstInOrder();
        constants();
        allCallsOfAnObject();
        newObject();
        of();
        asks();
        stand();
        edge.finish();
    }

    private static void atFirst() {
        edge.says("LACKING or not (at first), STAND-IN: another GOOD, or NONE (at first)");
        GladBasket b = new GladBasket();
        b.good(12, 1, 99, 9, 24);
        edge.is("of(0, 5)", b.of(0, 5), 0);
        edge.is("of(0, 6)", b.of(0, 6), NONE);
        b.good(1, 1, 1, 1, 1);
        b.stand(0, 1);
        b.lack(0);
        b.good(1, 1, 1, 1, 1);
        edge.is("of(2, 5)", b.of(2, 5), 0);
        edge.is("of(2, 6)", b.of(2, 6), NONE);
    }

    /** Each number at both ends, and one beyond; the others stay as they are. */
    private static void boundsOfGoods() {
        edge.says("BASE 1 .. 12 (at the peace) and NOW 1 .. 12, WEIGHT 0 .. 99, GLAD 0 .. 9, a PLACE 0 .. 24");
        int[][] ends = {{1, 12}, {1, 12}, {0, 99}, {0, 9}, {0, 24}};
        for (int at = 0; at < 5; at++) {
            for (int side = 0; side < 2; side++) {
                int[] in = {2, 3, 4, 5, 6};
                in[at] = ends[at][side];
                GladBasket b = new GladBasket();
                edge.granted("good with " + in[at] + " at " + at, b, x -> x.good(in[0], in[1], in[2], in[3], in[4]), 0);
                for (int what = 0; what < 5; what++) {
                    edge.is("of(0, " + what + ") of it", b.of(0, what), in[what]);
                }
                int beyond = ends[at][side] + (side == 0 ? -1 : 1);
                for (int wrong : new int[] {beyond, side == 0 ? MIN : MAX}) {
                    int[] out = {2, 3, 4, 5, 6};
                    out[at] = wrong;
                    edge.refusedEverywhere("good with " + wrong + " at " + at, -1,
                            x -> x.good(out[0], out[1], out[2], out[3], out[4]));
                }
            }
        }
        edge.refusedEverywhere("good with nothing that can be", -1, x -> x.good(0, 13, 100, 10, 25));
    }

    private static void eightGoods() {
        edge.says("GOODS 0 .. 7 (8 at most)");
        edge.promises(2, "A GOOD: its number. -1; -5.");
        GladBasket b = new GladBasket();
        for (int good = 0; good < 8; good++) {
            edge.granted("GOOD " + good, b, x -> x.good(1, 1, 0, 0, 0), good);
            edge.is("count(0)", b.count(0), good + 1);
        }
        edge.is("a ninth", b.good(1, 1, 0, 0, 0), -5);
        edge.is("count(0)", b.count(0), 8);
        edge.refused("a ninth", Edge.FULL, -5, x -> x.good(1, 1, 0, 0, 0));
        edge.refused("a ninth that can't be", Edge.FULL, -1, x -> x.good(1, 1, 0, 0, 25));
        edge.is("the first GOOD is as it was", b.of(0, 0), 1);
        edge.is("there is no ninth", b.of(8, 0), NONE);
        GladBasket fewer = new GladBasket();
        fewer.image(0);
        for (int good = 0; good < 8; good++) {
            fewer.good(1, 1, 0, 0, 0);
        }
        fewer.years(1, 1);
        fewer.back(0);
        edge.granted("there is room again behind back()", fewer, x -> x.good(1, 1, 0, 0, 0), 0);
    }

    private static void steps() {
        edge.says("(5 y and x; x, y 0 .. 4; STEPS between: |x| and |y|)");
        for (int from = 0; from < 25; from++) {
            for (int to = 0; to < 25; to++) {
                GladBasket b = new GladBasket();
                b.good(1, 1, 1, 1, to);
                int steps = Math.abs(from % 5 - to % 5) + Math.abs(from / 5 - to / 5);
                edge.is("STEPS from " + from + " to " + to, b.round(from, NONE), steps);
            }
        }
        GladBasket b = new GladBasket();
        b.good(1, 1, 1, 1, 5);
        edge.is("a row's end is not beside the next row's begin", b.round(4, NONE), 5);
    }

    private static void people() {
        edge.says("PEOPLE 0 .. 4 (5 at most)");
        edge.promises(6, "A PERSON: the number. -5.");
        GladBasket b = new GladBasket();
        for (int person = 0; person < 5; person++) {
            edge.granted("PERSON " + person, b, x -> x.person(), person);
            edge.is("count(2)", b.count(2), person + 1);
        }
        edge.refused("a sixth", Edge.FULL, -5, x -> x.person());
        edge.is("a sixth", b.person(), -5);
        edge.is("count(2)", b.count(2), 5);
    }

    private static void owns() {
        edge.says("OWN weights 0 .. 9 of each GOOD (0 at first)");
        edge.promises(7, "OWN weight of a PERSON and a GOOD: what it was. -1; -2.");
        GladBasket b = new GladBasket();
        for (int i = 0; i < 8; i++) {
            b.good(1, 1, 1, 1, 1);
            b.person();
        }
        for (int person = 0; person < 5; person += 4) {
            for (int good = 0; good < 8; good += 7) {
                int p = person;
                int g = good;
                edge.granted("9, where it was 0 at first", b, x -> x.own(p, g, 9), 0);
                edge.granted("0, where it was 9", b, x -> x.own(p, g, 0), 9);
                edge.granted("5, where it was 0", b, x -> x.own(p, g, 5), 0);
            }
        }
        edge.is("another's stays", b.own(1, 0, 1), 0);
        for (int wrong : new int[] {-1, 10, MIN, MAX}) {
            edge.refusedEverywhere("own(0, 0, " + wrong + ")", -1, x -> x.own(0, 0, wrong));
            edge.refusedEverywhere("own of no one with " + wrong, -1, x -> x.own(9, 9, wrong));
        }
        for (int wrong : new int[] {-1, 8, MIN, MAX}) {
            edge.refusedEverywhere("own(" + wrong + ", 0, 1)", -2, x -> x.own(wrong, 0, 1));
            edge.refusedEverywhere("own(0, " + wrong + ", 1)", -2, x -> x.own(0, wrong, 1));
        }
        edge.refused("one PERSON beyond", Edge.MIDDLE, -2, x -> x.own(2, 0, 1));
        edge.refused("one GOOD beyond", Edge.MIDDLE, -2, x -> x.own(0, 5, 1));
        edge.refused("a PERSON that never can be", Edge.FULL, -2, x -> x.own(5, 0, 1));
        edge.refused("no GOODS yet", x -> x.person(), -2, x -> x.own(0, 0, 1));
        edge.refused("no PEOPLE yet", x -> x.good(1, 1, 1, 1, 1), -2, x -> x.own(0, 0, 1));
    }

    private static void heard() {
        edge.says("HEARD, 12 at most: a figure 0 .. 999");
        GladBasket b = new GladBasket();
        edge.granted("hear(0)", b, x -> x.hear(0), 1);
        edge.granted("hear(999)", b, x -> x.hear(999), 2);
        for (int often = 3; often <= 12; often++) {
            edge.granted("hear", b, x -> x.hear(7), often);
        }
        for (int wrong : new int[] {-1, 1000, MIN, MAX}) {
            edge.refusedEverywhere("hear(" + wrong + ")", -1, x -> x.hear(wrong));
        }
        edge.refused("a 13th", Edge.FULL, -5, x -> x.hear(7));
    }

    private static void terms() {
        edge.says("TERMS: 0 MONTH 0 .. 999 (0 at first), 1 RISES 0 .. 10 (3), 2 MOOD 0 .. 9 (0).");
        edge.promises(8, "A TERM: what it was. -1.");
        int[] first = {0, 3, 0};
        int[] top = {999, 10, 9};
        for (int term = 0; term < 3; term++) {
            int what = term;
            GladBasket b = new GladBasket();
            edge.is("TERM " + what + " at first", b.count(13 + what), first[what]);
            edge.granted("the greatest of TERM " + what, b, x -> x.terms(what, top[what]), first[what]);
            edge.is("it is that", b.count(13 + what), top[what]);
            edge.granted("the least of TERM " + what, b, x -> x.terms(what, 0), top[what]);
            edge.is("it is that", b.count(13 + what), 0);
            edge.granted("what it is already", b, x -> x.terms(what, 0), 0);
            for (int wrong : new int[] {-1, top[what] + 1, MIN, MAX}) {
                edge.refusedEverywhere("terms(" + what + ", " + wrong + ")", -1, x -> x.terms(what, wrong));
            }
        }
        for (int wrong : new int[] {-1, 3, MIN, MAX}) {
            edge.refusedEverywhere("terms(" + wrong + ", 0)", -1, x -> x.terms(wrong, 0));
        }
    }

    /** Where several reasons meet. */
    private static void theFirstInOrder() {
        edge.says("REFUSED by: -1 a number that can't be; -2 there is no such GOOD, PERSON, LAW, IMAGE; -3 it can't be "
                + "by what stands; -5 no room; -6 a TEXT, a ROW that can't be. The first of these in that order.");
        edge.refused("good: -1 and -5", Edge.FULL, -1, x -> x.good(1, 1, 1, 1, -1));
        edge.refused("stand: -1 and -2, itself", Edge.MIDDLE, -1, x -> x.stand(7, 7));
        edge.refused("stand: -1 and -2, one there is not", Edge.MIDDLE, -1, x -> x.stand(7, 6));
        edge.refused("own: -1 and -2 of both", Edge.MIDDLE, -1, x -> x.own(-1, -1, -1));
        edge.refused("weigh: -1 and -2", Edge.MIDDLE, -1, x -> x.weigh(7, 100));
        edge.refused("hear: -1 and -5", Edge.FULL, -1, x -> x.hear(1000));
        edge.refused("years: -1 of the SEED and -3", Edge.EMPTY, -1, x -> x.years(-1, 1));
        edge.refused("years: -1 of n and -3", Edge.EMPTY, -1, x -> x.years(1, 0));
        edge.refusedBut("law: -5 and -6", Edge.FULL, -5, x -> x.law(), x -> x.end(0));
        edge.refusedBut("law: -5 and -6 of nothing", Edge.FULL, -5, x -> x.end(0) + x.law(), x -> x.end(0));
        edge.refused("back: -1 and -2", Edge.EMPTY, -1, x -> x.back(2));
        edge.refusedBut("orders: what can't be ahead of a FAULT", Edge.MIDDLE, -6,
                x -> ordersOf(x, "pass;lack 9;find 9 x"), x -> x.end(0), "fault()", "stopped()");
    }

    private static int ordersOf(GladBasket b, String text) {
        b.end(0);
        return Due.orders(b, text);
    }

    private static void constants() {
        edge.says("`NONE = -1`: There is none.");
        edge.is("NONE", GladBasket.NONE, -1);
        edge.says("`NOTHING = -100000`: What is not there, where it could be below 0.");
        edge.is("NOTHING", GladBasket.NOTHING, -100000);
        GladBasket b = new GladBasket();
        b.good(12, 1, 99, 0, 0);
        b.good(1, 12, 99, 0, 0);
        b.hear(999);
        b.hear(0);
        Due.enforce(b, "moves 0-9");
        edge.holds("what is there is above it: asks()", b.asks(0, 0) > GladBasket.NOTHING);
        edge.holds("what is there is above it: does()", b.does(0) < NONE && b.does(0) > GladBasket.NOTHING);
        edge.holds("what is there is above it: trend()", b.trend(0) < NONE && b.trend(0) > GladBasket.NOTHING);
    }

    /** The last of the calls that are promised answer as the first do. */
    private static void allCallsOfAnObject() {
        edge.says("An object is used for at most 512 calls after it has been made");
        GladBasket b = new GladBasket();
        b.good(1, 1, 1, 1, 1);
        for (int call = 2; call < 512; call++) {
            edge.is("call " + call, b.weigh(0, call % 100), call == 2 ? 1 : (call - 1) % 100);
        }
        edge.is("call 512", b.count(5), 16);
    }

    private static void newObject() {
        edge.promises(1, "An empty basket.");
        GladBasket b = new GladBasket();
        int[] counts = {0, 0, 0, 0, 0, 0, 0, 0, 0, 0, 0, 0, NONE, 0, 3, 0};
        for (int what = 0; what < 16; what++) {
            edge.is("count(" + what + ")", b.count(what), counts[what]);
        }
        for (int what = 0; what < 7; what++) {
            edge.is("of(0, " + what + ")", b.of(0, what), NONE);
        }
        edge.is("status()", b.status(), 0);
        edge.is("fault()", b.fault(), NONE);
        edge.is("stopped()", b.stopped(), NONE);
        edge.is("commas()", b.commas(), 0);
        edge.is("drawn(0, 0)", b.drawn(0, 0), NONE);
        edge.is("pension()", b.pension(), 100);
        edge.is("back(0)", b.back(0), -2);
        edge.is("back(1)", b.back(1), -2);
        edge.is("undo()", b.undo(), -3);
        GladBasket other = Edge.made(Edge.FULL);
        edge.is("another object's GOODS", other.count(0), 8);
        edge.is("are not its own", b.count(0), 0);
    }

    private static void of() {
        edge.promises(3, "Of a GOOD BASE (what 0), NOW (1), WEIGHT (2), GLAD (3), PLACE (4), LACKING (5: 1, 0), "
                + "STAND-IN (6; NONE). NONE.");
        GladBasket b = Edge.made(Edge.FULL);
        int[] first = {1, 6, 8, 1, 0, 0, 7};
        int[] last = {8, 12, 7, 8, 21, 0, NONE};
        for (int what = 0; what < 7; what++) {
            edge.is("of(0, " + what + ")", b.of(0, what), first[what]);
            edge.is("of(7, " + what + ")", b.of(7, what), last[what]);
        }
        edge.is("LACKING", b.of(4, 5), 1);
        for (int good : new int[] {-1, 8, MIN, MAX}) {
            edge.leavesAll("of(" + good + ", 0)", NONE, x -> x.of(good, 0));
        }
        for (int what : new int[] {-1, 7, MIN, MAX}) {
            edge.leavesAll("of(0, " + what + ")", NONE, x -> x.of(0, what));
        }
        edge.leavesAll("one GOOD beyond", Edge.MIDDLE, NONE, x -> x.of(5, 0));
        edge.leavesAll("the last GOOD", Edge.MIDDLE, 2, x -> x.of(4, 0));
        edge.leavesAll("no GOOD", Edge.EMPTY, NONE, x -> x.of(0, 0));
    }

    private static void asks() {
        edge.promises(4, "By law how NOW of a GOOD MOVES (what 0), what it COUNTS (1; 0 if it LACKS without a "
                + "STAND-IN), by how much it makes GLAD (2), whether BARRED (3: 1, 0). NOTHING.");
        int nothing = GladBasket.NOTHING;
        for (int good : new int[] {-1, 8, MIN, MAX}) {
            edge.leavesAll("asks(" + good + ", 0)", nothing, x -> x.asks(good, 0));
        }
        for (int what : new int[] {-1, 4, MIN, MAX}) {
            edge.leavesAll("asks(0, " + what + ")", nothing, x -> x.asks(0, what));
        }
        edge.leavesAll("one GOOD beyond", Edge.MIDDLE, nothing, x -> x.asks(5, 1));
        edge.leavesAll("the last GOOD", Edge.MIDDLE, -3, x -> x.asks(4, 0));
        edge.leavesAll("whether BARRED", Edge.MIDDLE, 1, x -> x.asks(1, 3));
        edge.leavesAll("whether BARRED", Edge.MIDDLE, 0, x -> x.asks(2, 3));
        GladBasket b = new GladBasket();
        b.good(1, 1, 7, 1, 1);
        b.good(1, 1, 8, 1, 1);
        edge.is("it COUNTS", b.asks(0, 1), 7);
        b.lack(0);
        edge.is("it LACKS without a STAND-IN", b.asks(0, 1), 0);
        b.stand(0, 1);
        edge.is("it LACKS with one", b.asks(0, 1), 7);
        b.lack(1);
        edge.is("it LACKS with one that LACKS", b.asks(0, 1), 7);
        b.stand(0, NONE);
        edge.is("it LACKS without one again", b.asks(0, 1), 0);
        b.find(0);
        edge.is("it is found", b.asks(0, 1), 7);
        Due.enforce(b, "counts 50");
        edge.is("by a LAW", b.asks(0, 1), 50);
        edge.is("not even by a LAW, if it is out", b.asks(1, 1), 0);
    }

    private static void stand() {
        edge.promises(5, "STAND-IN of a GOOD (NONE: none): 0. -1 (itself, one there is not); -2.");
        for (int good : new int[] {0, 1, 7, 8, MAX, MIN, -2}) {
            edge.refusedEverywhere("stand(" + good + ", itself)", -1, x -> x.stand(good, good));
        }
        for (int other : new int[] {-2, 8, MIN, MAX}) {
            edge.refusedEverywhere("stand(0, " + other + ")", -1, x -> x.stand(0, other));
            edge.refusedEverywhere("stand(9, " + other + ")", -1, x -> x.stand(9, other));
        }
        edge.refused("one GOOD beyond to stand in", Edge.MIDDLE, -1, x -> x.stand(0, 5));
        edge.refused("one there is not yet", Edge.EMPTY, -1, x -> x.stand(0, 1));
        for (int good : new int[] {-1, 8, MIN, MAX}) {
            edge.refusedEverywhere("stand(" + good + ", NONE)", -2, x -> x.stand(good, NONE));
            edge.refused("stand(" + good + ", 0)", Edge.MIDDLE, -2, x -> x.stand(good, 0));
        }
        edge.refused("one GOOD beyond", Edge.MIDDLE, -2, x -> x.stand(5, 0));
        edge.refused("no GOOD", Edge.EMPTY, -2, x -> x.stand(0, NONE));
        GladBasket b = Edge.made(Edge.MIDDLE);
        edge.granted("the last GOOD stands in", b, x -> x.stand(0, 4), 0);
        edge.is("of(0, 6)", b.of(0, 6), 4);
        edge.granted("and it has one itself: they may go round", b, x -> x.stand(4, 0), 0);
        edge.is("of(4, 6)", b.of(4, 6), 0);
        edge.granted("the same again", b, x -> x.stand(4, 0), 0);
        edge.granted("none", b, x -> x.stand(4, NONE), 0);
        edge.is("of(4, 6)", b.of(4, 6), NONE);
        edge.granted("none, where there is none", b, x -> x.stand(4, NONE), 0);
    }
}
