import java.io.IOException;

/** Edges of the TAPE (Terms II), of ROWS and COMMAS (Terms IV), and of promises 9 to 12. */
public final class EdgesTapeTest {
    private static final int NONE = GladBasket.NONE;
    private static final int MIN = Edge.MIN;
    private static final int MAX = Edge.MAX;
    private static final int FINE = 0x01010101;
    private static Edge edge;

    public static void main(String[] args) throws IOException {
        edge = new Edge("EdgesTapeTest");
        fourHundred();
        feedOrder();
        feedNone();
        end();
        byFours();
        whatCannotBe();
        tapeEndsWithin();
        noRoom();
        emptyTape();
        commas();
        edge.finish();
    }

    private static GladBasket fed(int times) {
        GladBasket b = new GladBasket();
        for (int i = 0; i < times; i++) {
            b.feed(FINE, FINE, FINE, FINE, FINE);
        }
        return b;
    }

    private static void fourHundred() {
        edge.says("TEXTS are on a TAPE of at most 400 bytes.");
        GladBasket b = new GladBasket();
        for (int times = 1; times <= 20; times++) {
            edge.is("feed", b.feed(0, 0, 0, 0, 0), 20 * times);
        }
        edge.is("a 21st", b.feed(0, 0, 0, 0, 0), NONE);
        edge.is("count(6)", b.count(6), 400);
        String law = "counts 1;counts good+2";
        b = new GladBasket();
        b.good(1, 1, 1, 1, 1);
        Due.enforce(b, " ".repeat(400 - law.length()) + law);
        edge.is("the 400th byte is read", b.asks(0, 1), 2);
        edge.is("a FAULT at the 400th", Due.law(b, "bars" + " ".repeat(395) + "x"), -6);
        edge.is("its place", b.fault(), 399);
        edge.is("a FAULT at the end of 400", Due.law(b, "bars" + " ".repeat(395) + ";"), -6);
        edge.is("its place", b.fault(), 400);
        edge.is("a TOKEN of 400", Due.law(b, "a".repeat(400)), -6);
        edge.is("its place", b.fault(), 0);
        edge.is("ORDERS of 400", Due.orders(b, " ".repeat(389) + "pass;lack 0"), 2);
        edge.is("count(1)", b.count(1), 1);
    }

    private static void feedOrder() {
        edge.promises(9, "Twenty bytes come behind the TAPE, four of each number, the highest first: how many it has.");
        GladBasket b = new GladBasket();
        edge.is("feed", b.feed(0x01020304, 0x05060708, 0x090a0b00, 0x0c0c6309, 0x02010000), 20);
        edge.is("feed behind it", b.feed(0x03020100, 0x04040404, MIN, MAX, -1), 40);
        b.end(37);
        edge.is("row()", b.row(), 7);
        edge.is("commas() of 80 00 00 00, 7f ff ff ff, ff", b.commas(), 3);
        int[][] want = {{1, 2, 3, 4}, {5, 6, 7, 8}, {9, 10, 11, 0}, {12, 12, 99, 9}, {2, 1, 0, 0}, {3, 2, 1, 0},
            {4, 4, 4, 4}};
        for (int good = 0; good < 7; good++) {
            for (int what = 0; what < 4; what++) {
                edge.is("of(" + good + ", " + what + ")", b.of(good, what), want[good][what]);
            }
        }
    }

    private static void feedNone() {
        edge.promises(9, "NONE, if there would be more than 400.");
        edge.leavesAll("feed on 400", Edge.FULL, NONE, x -> x.feed(1, 2, 3, 4, 5));
        for (int length = 381; length < 400; length++) {
            int n = length;
            edge.leavesAll("feed on " + n, x -> {
                Edge.FULL.set(x);
                x.end(n);
            }, NONE, x -> x.feed(1, 2, 3, 4, 5));
        }
        GladBasket b = fed(20);
        b.end(380);
        edge.is("feed on 380", b.feed(FINE, 0, 0, 0, 0), 400);
        b.end(379);
        edge.is("feed on 379", b.feed(FINE, 0, 0, 0, 0), 399);
        edge.is("feed on 399", b.feed(FINE, 0, 0, 0, 0), NONE);
    }

    private static void end() {
        edge.promises(10, "The TAPE has its first n bytes alone: n. NONE, if it has not so many, or n is below 0.");
        for (int n : new int[] {-1, 401, MIN, MAX}) {
            edge.leavesAll("end(" + n + ")", NONE, x -> x.end(n));
        }
        edge.leavesAll("end of all it has", Edge.FULL, 400, x -> x.end(400));
        edge.leavesAll("one byte more than it has", Edge.MIDDLE, NONE, x -> x.end(25));
        edge.leavesAll("just what it has", Edge.MIDDLE, 24, x -> x.end(24));
        edge.leavesAll("end(0) of an empty TAPE", Edge.EMPTY, 0, x -> x.end(0));
        edge.leavesAll("end(1) of an empty TAPE", Edge.EMPTY, NONE, x -> x.end(1));
        GladBasket b = Edge.made(Edge.MIDDLE);
        edge.is("end(23)", b.end(23), 23);
        edge.is("count(6)", b.count(6), 23);
        edge.is("what is gone does not come again", b.end(24), NONE);
        edge.is("the first bytes alone", b.end(6), 6);
        edge.is("they are 'lack 2'", b.orders(), 1);
        edge.is("count(1)", b.count(1), 2);
        b = fed(1);
        edge.is("end(0)", b.end(0), 0);
        edge.is("count(6)", b.count(6), 0);
        edge.is("the next bytes are the first", b.feed(0x02030405, 0, 0, 0, 0), 20);
        b.row();
        edge.is("of(0, 0)", b.of(0, 0), 2);
    }

    private static GladBasket rowOf(int length, int... fours) {
        GladBasket b = new GladBasket();
        b.feed(fours[0], fours.length > 1 ? fours[1] : 0, 0, 0, 0);
        b.end(length);
        return b;
    }

    private static void byFours() {
        edge.says("A ROW: the TAPE's bytes by fours: BASE, NOW, WEIGHT, GLAD: a GOOD at PLACE 0");
        edge.promises(11, "A ROW, the TAPE is empty then: how many GOODS came.");
        GladBasket b = rowOf(8, 0x0c016309, 0x010c0000);
        edge.granted("two at all ends of what can be", b, x -> x.row(), 2);
        int[][] want = {{12, 1, 99, 9, 0, 0, NONE}, {1, 12, 0, 0, 0, 0, NONE}};
        for (int what = 0; what < 7; what++) {
            edge.is("of(0, " + what + ")", b.of(0, what), want[0][what]);
            edge.is("of(1, " + what + ")", b.of(1, what), want[1][what]);
        }
        edge.is("commas()", b.commas(), 0);
        edge.is("the TAPE is empty then", b.count(6), 0);
        edge.is("and a ROW of it can't be", b.row(), -6);
    }

    private static void whatCannotBe() {
        edge.says("one that can't be, one within which the TAPE ends, one for which there is no room is a COMMA: none.");
        int[] wrong = {0x00010101, 0x0d010101, 0x01000101, 0x010d0101, 0x01016401, 0x0101010a, 0xff010101, 0x01ff0101,
            0x0101ff01, 0x010101ff, 0x80010101, 0};
        for (int four : wrong) {
            GladBasket b = rowOf(8, four, FINE);
            edge.granted("one that can't be, and one that can: " + Integer.toHexString(four), b, x -> x.row(), 1);
            edge.is("commas()", b.commas(), 1);
            edge.is("count(0)", b.count(0), 1);
            edge.is("of(0, 0)", b.of(0, 0), 1);
            b = rowOf(4, four);
            edge.granted("one that can't be alone", b, x -> x.row(), 0);
            edge.is("commas()", b.commas(), 1);
            edge.is("count(6)", b.count(6), 0);
        }
    }

    private static void tapeEndsWithin() {
        edge.says("one within which the TAPE ends");
        for (int length = 1; length <= 8; length++) {
            GladBasket b = rowOf(length, FINE, FINE);
            edge.granted("a ROW of " + length + " bytes", b, x -> x.row(), length / 4);
            edge.is("commas()", b.commas(), length % 4 == 0 ? 0 : 1);
            edge.is("count(6)", b.count(6), 0);
        }
    }

    private static void noRoom() {
        edge.says("one for which there is no room is a COMMA: none.");
        GladBasket b = fed(20);
        edge.granted("a hundred", b, x -> x.row(), 8);
        edge.is("commas()", b.commas(), 92);
        b = fed(2);
        b.end(32);
        edge.granted("eight", b, x -> x.row(), 8);
        edge.is("commas()", b.commas(), 0);
        b.feed(FINE, FINE, FINE, FINE, FINE);
        b.end(4);
        edge.granted("a ninth", b, x -> x.row(), 0);
        edge.is("commas()", b.commas(), 1);
        edge.is("count(0)", b.count(0), 8);
        b.feed(FINE, FINE, FINE, FINE, FINE);
        b.end(3);
        edge.granted("a part of a ninth is one COMMA", b, x -> x.row(), 0);
        edge.is("commas()", b.commas(), 1);
        b = fed(2);
        b.end(36);
        edge.granted("eight and a ninth", b, x -> x.row(), 8);
        edge.is("commas()", b.commas(), 1);
    }

    private static void emptyTape() {
        edge.promises(11, "-6 the TAPE is empty.");
        edge.refused("row()", Edge.EMPTY, -6, x -> x.row());
        for (Edge.Scene scene : new Edge.Scene[] {Edge.MIDDLE, Edge.FULL}) {
            edge.refused("row()", x -> {
                scene.set(x);
                x.end(0);
            }, -6, x -> x.row());
        }
        GladBasket b = rowOf(1, 0);
        edge.granted("one byte is not nothing", b, x -> x.row(), 0);
    }

    private static void commas() {
        edge.promises(12, "How many COMMAS the latest row() had that was not REFUSED (0 ahead of any).");
        GladBasket b = new GladBasket();
        edge.is("ahead of any", b.commas(), 0);
        b.row();
        edge.is("behind one that was REFUSED alone", b.commas(), 0);
        b.feed(0, 0, FINE, 0, 0);
        edge.is("row()", b.row(), 1);
        edge.is("commas()", b.commas(), 4);
        b.row();
        edge.is("behind one that was REFUSED", b.commas(), 4);
        Due.law(b, "x");
        Due.orders(b, "x");
        edge.is("behind other TEXTS", b.commas(), 4);
        b.feed(FINE, 0, 0, 0, 0);
        b.end(4);
        b.row();
        edge.is("behind one without", b.commas(), 0);
        edge.leavesAll("commas()", Edge.MIDDLE, 1, x -> x.commas());
    }
}
