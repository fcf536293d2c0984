/** Promises 9 to 12: the TAPE, ROWS and COMMAS. */
public final class TapeTest {
    private static final Due due = new Due("TapeTest");

    public static void main(String[] args) {
        feeding();
        rows();
        fullBasket();
        due.finish();
    }

    private static void feeding() {
        GladBasket b = new GladBasket();
        for (int times = 1; times <= 20; times++) {
            due.is(9, "feed", b.feed(1, 2, 3, 4, 5), 20 * times);
        }
        due.is(9, "feed beyond 400", b.feed(1, 2, 3, 4, 5), -1);
        due.is(9, "count(6)", b.count(6), 400);
        due.is(10, "end(401)", b.end(401), -1);
        due.is(10, "end(-1)", b.end(-1), -1);
        due.is(10, "end(400)", b.end(400), 400);
        due.is(10, "end(381)", b.end(381), 381);
        due.is(9, "feed to 401", b.feed(1, 2, 3, 4, 5), -1);
        due.is(10, "end(380)", b.end(380), 380);
        due.is(10, "end(381) that is gone", b.end(381), -1);
        due.is(9, "feed to 400", b.feed(1, 2, 3, 4, 5), 400);
        due.is(10, "end(0)", b.end(0), 0);
        due.is(10, "count(6)", b.count(6), 0);
        due.is(10, "end(MIN)", b.end(Integer.MIN_VALUE), -1);
        due.is(9, "status() does not tell of feed and end", b.status(), 0);
        due.is(9, "count(7) does not count them", b.count(7), 0);
        Due.type(b, "bars");
        due.is(9, "the highest byte first", b.law(), 0);
        b.feed(0x62617273, 0xff626172, 0, 0, 0);
        b.end(5);
        due.is(9, "bytes above 127", b.law(), -6);
        due.is(9, "fault()", b.fault(), 4);
    }

    private static void rows() {
        GladBasket b = new GladBasket();
        due.is(11, "row() of nothing", b.row(), -6);
        due.is(12, "commas() ahead of any", b.commas(), 0);
        b.feed(0x01020304, 0x0c0c6309, 0x0d010101, 0x01000101, 0x01016401);
        b.feed(0x0101010a, 0x00010101, 0x05050000, 0xff010101, 0x01010100);
        b.end(38);
        due.is(11, "row()", b.row(), 3);
        due.is(12, "commas()", b.commas(), 7);
        due.is(11, "count(6)", b.count(6), 0);
        due.is(11, "count(0)", b.count(0), 3);
        int[][] want = {{1, 2, 3, 4, 0, 0, -1}, {12, 12, 99, 9, 0, 0, -1}, {5, 5, 0, 0, 0, 0, -1}};
        for (int good = 0; good < 3; good++) {
            for (int what = 0; what < 7; what++) {
                due.is(11, "of(" + good + ", " + what + ")", b.of(good, what), want[good][what]);
            }
        }
        due.is(11, "row() of nothing", b.row(), -6);
        due.is(12, "commas() of the latest that was not REFUSED", b.commas(), 7);
        b.feed(0x01010101, 0, 0, 0, 0);
        b.end(3);
        due.is(11, "row() of a part", b.row(), 0);
        due.is(12, "commas()", b.commas(), 1);
        due.is(11, "status()", b.status(), 0);
        b.feed(0x01010101, 0, 0, 0, 0);
        b.end(4);
        due.is(11, "row() of one", b.row(), 1);
        due.is(12, "commas()", b.commas(), 0);
    }

    private static void fullBasket() {
        GladBasket b = new GladBasket();
        b.good(1, 1, 1, 1, 9);
        b.feed(0x01010101, 0x01010101, 0x01010101, 0x00010101, 0x01010101);
        b.feed(0x01010101, 0x01010101, 0x01010101, 0x01010101, 0x01010101);
        b.end(39);
        due.is(11, "row() until it is full", b.row(), 7);
        due.is(12, "commas()", b.commas(), 3);
        b.feed(0x01010101, 0, 0, 0, 0);
        due.is(11, "row() when it is full", b.row(), 0);
        due.is(12, "commas()", b.commas(), 5);
        due.is(11, "status() of that", b.status(), 0);
    }
}
