import java.io.IOException;

/** Edges of what changes a basket (Terms III), of IMAGES (Terms IV), and of promises 18 to 22, 31, 32, 39 to 42. */
public final class EdgesChangesTest {
    private static final int NONE = GladBasket.NONE;
    private static final int MIN = Edge.MIN;
    private static final int MAX = Edge.MAX;
    private static Edge edge;

    public static void main(String[] args) throws IOException {
        edge = new Edge("EdgesChangesTest");
        lack();
        find();
        weigh();
        nothingElse();
        monthBelow999();
        pricesStayWithin();
        askedAsItWasAhead();
        undo();
        sixteen();
        nothingAhead();
        hear();
        forget();
        imagesKeep();
        imagesKeepAll();
        imagesDoNotKeep();
        image();
        back();
        count();
        refusedCounts();
        status();
        edge.finish();
    }

    private static GladBasket basket() {
        GladBasket b = new GladBasket();
        b.good(2, 4, 3, 5, 0);
        b.good(3, 6, 2, 1, 24);
        b.good(6, 11, 1, 9, 4);
        return b;
    }

    // ---- To LACK, to FIND, to WEIGH, a MONTH

    private static void lack() {
        edge.promises(18, "To LACK: how many are LACKING then. -2; -3 it does already.");
        for (int good : new int[] {-1, 8, MIN, MAX}) {
            edge.refusedEverywhere("lack(" + good + ")", -2, x -> x.lack(good));
        }
        edge.refused("one GOOD beyond", Edge.MIDDLE, -2, x -> x.lack(5));
        edge.refused("no GOOD", Edge.EMPTY, -2, x -> x.lack(0));
        edge.refused("it does already", Edge.MIDDLE, -3, x -> x.lack(0));
        edge.refused("it does already", Edge.FULL, -3, x -> x.lack(4));
        GladBasket b = new GladBasket();
        for (int good = 0; good < 8; good++) {
            b.good(1, 1, 1, 1, 1);
        }
        for (int good = 7; good >= 0; good--) {
            int g = good;
            edge.granted("lack(" + g + ")", b, x -> x.lack(g), 8 - g);
            edge.is("of(" + g + ", 5)", b.of(g, 5), 1);
        }
        edge.is("count(1)", b.count(1), 8);
    }

    private static void find() {
        edge.promises(19, "To FIND: how many are LACKING then. -2; -3 it does not LACK.");
        for (int good : new int[] {-1, 8, MIN, MAX}) {
            edge.refusedEverywhere("find(" + good + ")", -2, x -> x.find(good));
        }
        edge.refused("one GOOD beyond", Edge.MIDDLE, -2, x -> x.find(5));
        edge.refused("no GOOD", Edge.EMPTY, -2, x -> x.find(0));
        edge.refused("it does not LACK", Edge.MIDDLE, -3, x -> x.find(1));
        edge.refused("it was found already", Edge.MIDDLE, -3, x -> x.find(3));
        GladBasket b = Edge.made(Edge.MIDDLE);
        edge.granted("lack(4), the last", b, x -> x.lack(4), 2);
        edge.granted("find(0)", b, x -> x.find(0), 1);
        edge.granted("find(4), the last that LACKS", b, x -> x.find(4), 0);
        edge.is("of(4, 5)", b.of(4, 5), 0);
        edge.is("again", b.find(4), -3);
    }

    private static void weigh() {
        edge.promises(20, "To WEIGH: WEIGHT as it was. -1; -2.");
        for (int weight : new int[] {-1, 100, MIN, MAX}) {
            edge.refusedEverywhere("weigh(0, " + weight + ")", -1, x -> x.weigh(0, weight));
            edge.refusedEverywhere("weigh(9, " + weight + ")", -1, x -> x.weigh(9, weight));
        }
        for (int good : new int[] {-1, 8, MIN, MAX}) {
            edge.refusedEverywhere("weigh(" + good + ", 0)", -2, x -> x.weigh(good, 0));
            edge.refusedEverywhere("weigh(" + good + ", 99)", -2, x -> x.weigh(good, 99));
        }
        edge.refused("one GOOD beyond", Edge.MIDDLE, -2, x -> x.weigh(5, 1));
        GladBasket b = basket();
        edge.granted("weigh(0, 99)", b, x -> x.weigh(0, 99), 3);
        edge.granted("weigh(0, 0)", b, x -> x.weigh(0, 0), 99);
        edge.granted("what it is already", b, x -> x.weigh(0, 0), 0);
        edge.is("that can be undone, too", b.count(5), 3);
        edge.granted("weigh(2, 7), the last", b, x -> x.weigh(2, 7), 1);
        edge.is("of(2, 2)", b.of(2, 2), 7);
        b.lack(2);
        edge.granted("one that LACKS", b, x -> x.weigh(2, 8), 7);
    }

    private static void nothingElse() {
        edge.says("To LACK, to FIND again. To WEIGH: another WEIGHT.");
        GladBasket b = basket();
        int[] asItWas = traits(b);
        b.lack(1);
        asItWas[7 + 5] = 1;
        alike("lack(1)", b, asItWas);
        b.weigh(0, 77);
        asItWas[2] = 77;
        alike("weigh(0, 77)", b, asItWas);
        b.find(1);
        asItWas[7 + 5] = 0;
        alike("find(1)", b, asItWas);
        b.pass();
        alike("pass() without a LAW", b, asItWas);
    }

    private static int[] traits(GladBasket b) {
        int[] traits = new int[21];
        for (int i = 0; i < 21; i++) {
            traits[i] = b.of(i / 7, i % 7);
        }
        return traits;
    }

    private static void alike(String what, GladBasket b, int[] want) {
        int[] got = traits(b);
        for (int i = 0; i < 21; i++) {
            edge.is("of(" + i / 7 + ", " + i % 7 + ") behind " + what, got[i], want[i]);
        }
    }

    private static void monthBelow999() {
        edge.says("A MONTH passes (MONTH below 999)");
        edge.promises(21, "A MONTH: its number. -3.");
        edge.granted("the first, of an empty basket", new GladBasket(), x -> x.pass(), 1);
        GladBasket b = basket();
        b.terms(0, 997);
        edge.granted("to 998", b, x -> x.pass(), 998);
        edge.granted("to 999", b, x -> x.pass(), 999);
        edge.is("from 999", b.pass(), -3);
        edge.is("count(13)", b.count(13), 999);
        edge.refused("pass() at MONTH 999", Edge.FULL, -3, x -> x.pass());
        edge.refused("pass() at MONTH 999 of no GOODS", x -> x.terms(0, 999), -3, x -> x.pass());
        edge.is("undo() to 998", b.undo(), 3);
        edge.granted("to 999 again", b, x -> x.pass(), 999);
    }

    private static void pricesStayWithin() {
        edge.says("NOW of each GOOD MOVES (1 .. 12)");
        for (int now = 1; now <= 12; now++) {
            for (int move = -9; move <= 9; move++) {
                GladBasket b = new GladBasket();
                b.good(5, now, 1, 1, 1);
                Due.enforce(b, "moves " + (move + 9) + "-9");
                b.pass();
                edge.is("NOW " + now + " by " + move, b.of(0, 1), Math.max(1, Math.min(12, now + move)));
                edge.is("BASE", b.of(0, 0), 5);
            }
        }
    }

    private static void askedAsItWasAhead() {
        edge.says("NOW of each GOOD MOVES (1 .. 12), all asked as it was ahead.");
        GladBasket b = basket();
        Due.enforce(b, "moves 1 if month=0;moves 2 if month=1");
        b.pass();
        edge.is("by the MONTH ahead", b.of(0, 1), 5);
        b.pass();
        edge.is("by the MONTH ahead", b.of(0, 1), 7);
        edge.is("each by it", b.of(2, 1), 12);
        b = basket();
        b.stand(0, 1);
        b.lack(0);
        Due.enforce(b, "moves now-3");
        b.pass();
        edge.is("one that LACKS by its own", b.of(0, 1), 5);
        edge.is("and one that stands in", b.of(1, 1), 9);
    }

    // ---- What is undone

    private static void undo() {
        edge.promises(22, "The latest lack(), find(), weigh(), pass() (by ORDERS, too; 16 are kept) is undone: 0 .. 3.");
        GladBasket b = basket();
        Due.enforce(b, "moves 9");
        b.lack(0);
        b.find(0);
        b.weigh(0, 7);
        b.pass();
        edge.is("count(5)", b.count(5), 4);
        edge.granted("undo() of pass()", b, x -> x.undo(), 3);
        edge.is("NOW, though it was cut at 12", b.of(2, 1), 11);
        edge.is("count(13)", b.count(13), 0);
        edge.granted("undo() of weigh()", b, x -> x.undo(), 2);
        edge.is("of(0, 2)", b.of(0, 2), 3);
        edge.granted("undo() of find()", b, x -> x.undo(), 1);
        edge.is("of(0, 5)", b.of(0, 5), 1);
        edge.granted("undo() of lack()", b, x -> x.undo(), 0);
        edge.is("of(0, 5)", b.of(0, 5), 0);
        edge.is("count(5)", b.count(5), 0);
        edge.promises(22, "-3 there is none");
        edge.is("undo() of nothing", b.undo(), -3);
        edge.refused("undo()", Edge.EMPTY, -3, x -> x.undo());
        edge.refused("undo()", x -> {
            Edge.MIDDLE.set(x);
            x.terms(1, 1);
        }, -3, x -> x.undo());
        b.lack(0);
        b.force(NONE);
        edge.granted("what is undone is not undone again", b, x -> x.undo(), 0);
        edge.is("undo()", b.undo(), -3);
    }

    private static void sixteen() {
        edge.promises(22, "16 are kept");
        for (int many = 15; many <= 33; many++) {
            GladBasket b = basket();
            for (int i = 1; i <= many; i++) {
                b.weigh(0, i + 10);
            }
            edge.is("count(5) of " + many, b.count(5), Math.min(16, many));
            int undone = 0;
            while (undone < 17 && b.undo() == 2) {
                undone++;
            }
            edge.is("undone of " + many, undone, Math.min(16, many));
            edge.is("WEIGHT then", b.of(0, 2), many <= 16 ? 3 : many - 16 + 10);
        }
        for (int many = 14; many <= 40; many++) {
            ofAllKinds(many);
        }
    }

    /** Of more than 16 changes of all kinds, each that is kept is undone to what it was then. */
    private static void ofAllKinds(int many) {
        GladBasket b = basket();
        Due.enforce(b, "moves 1 if good=month%3;moves 0-1 if good=[month+1]%3");
        // A looked at twin leaves the object's calls, of which 512 are promised, for what is undone.
        GladBasket twin = basket();
        Due.enforce(twin, "moves 1 if good=month%3;moves 0-1 if good=[month+1]%3");
        String[] seen = new String[many + 1];
        seen[0] = state(twin);
        for (int i = 1; i <= many; i++) {
            changeOnce(b, i - 1);
            changeOnce(twin, i - 1);
            seen[i] = state(twin);
        }
        // ORDERS that can't be leave all of it as it was.
        edge.is("orders()", Due.orders(b, "weigh 2 by 1 times 20;pass times 20;weigh 1 by 2 times 20;find 9"), -3);
        int left = Math.min(16, many);
        for (int i = many - 1; i >= many - left; i--) {
            edge.is("undo() of " + i + " of " + many, b.undo(), kindOf(i));
            edge.holds("as it was ahead of " + i + " of " + many + ": " + state(b), state(b).equals(seen[i]));
        }
        edge.is("undo() of one more", b.undo(), -3);
    }

    /** By fives: to LACK, to WEIGH, a MONTH, to FIND, a MONTH, each time of the next GOOD. */
    private static int kindOf(int i) {
        return new int[] {0, 2, 3, 1, 3}[i % 5];
    }

    private static void changeOnce(GladBasket b, int i) {
        int good = i / 5 % 3;
        switch (kindOf(i)) {
            case 0: b.lack(good); break;
            case 1: b.find(good); break;
            case 2: b.weigh(2 - good, 20 + i); break;
            default: b.pass(); break;
        }
    }

    private static String state(GladBasket b) {
        StringBuilder s = new StringBuilder().append(b.count(13));
        for (int good = 0; good < 3; good++) {
            s.append(' ').append(b.of(good, 1)).append(' ').append(b.of(good, 2)).append(' ').append(b.of(good, 5));
        }
        return s.toString();
    }

    private static void leavesToUndo(String what, int left, Edge.Call call) {
        GladBasket b = Edge.made(Edge.MIDDLE);
        b.end(0);
        b.feed(0, 0, 0, 0, 0);
        b.image(1);
        call.on(b);
        edge.is("count(5) behind " + what, b.count(5), left);
        edge.is("undo() behind " + what, b.undo(), left == 0 ? -3 : 1);
    }

    private static void nothingAhead() {
        edge.promises(22, "(nothing that was ahead of a good(), stand(), terms(), row() that was not REFUSED can be undone)");
        leavesToUndo("good()", 0, x -> x.good(1, 1, 1, 1, 1));
        leavesToUndo("stand()", 0, x -> x.stand(0, NONE));
        leavesToUndo("terms() of a MONTH", 0, x -> x.terms(0, 41));
        leavesToUndo("terms() of MOOD", 0, x -> x.terms(2, 5));
        leavesToUndo("row() of COMMAS alone", 0, x -> x.row());
        leavesToUndo("good() that was REFUSED", 5, x -> x.good(0, 1, 1, 1, 1));
        leavesToUndo("stand() that was REFUSED", 5, x -> x.stand(0, 0));
        leavesToUndo("terms() that was REFUSED", 5, x -> x.terms(3, 0));
        leavesToUndo("row() that was REFUSED", 5, x -> x.end(0) + x.row());
        leavesToUndo("person()", 5, x -> x.person());
        leavesToUndo("own()", 5, x -> x.own(0, 0, 1));
        leavesToUndo("law()", 5, x -> x.end(0) + Due.law(x, "bars"));
        leavesToUndo("force()", 5, x -> x.force(1));
        leavesToUndo("hear()", 5, x -> x.hear(1));
        leavesToUndo("forget()", 5, x -> x.forget());
        leavesToUndo("years()", 5, x -> x.years(1, 1));
        leavesToUndo("image()", 5, x -> x.image(0));
        leavesToUndo("back() that was REFUSED", 5, x -> x.back(2));
        leavesToUndo("ORDERS of which none was run", 5, x -> x.end(0) + Due.orders(x, "pass if 1=2"));
        leavesToUndo("back()", 0, x -> x.back(1));
    }

    // ---- HEARD

    private static void hear() {
        edge.promises(31, "HEARD: how often there was. -1; -5.");
        GladBasket b = Edge.made(Edge.MIDDLE);
        edge.granted("a fourth", b, x -> x.hear(999), 4);
        for (int often = 5; often <= 12; often++) {
            edge.granted("more", b, x -> x.hear(0), often);
        }
        edge.is("a 13th", b.hear(0), -5);
        edge.is("a 13th that can't be", b.hear(-1), -1);
        edge.is("count(3)", b.count(3), 12);
        edge.refused("a 13th", Edge.FULL, -5, x -> x.hear(0));
        edge.refused("a 13th", Edge.FULL, -5, x -> x.hear(999));
    }

    private static void forget() {
        edge.promises(32, "HEARD is nothing then: how often there was.");
        edge.leavesAll("forget() of nothing", Edge.EMPTY, 0, x -> x.forget());
        GladBasket few = new GladBasket();
        for (int often = 1; often <= 3; often++) {
            few.hear(often);
        }
        edge.is("forget() of three", few.forget(), 3);
        edge.is("forget() again", few.forget(), 0);
        GladBasket b = Edge.made(Edge.FULL);
        int status = b.status();
        edge.is("forget() of twelve", b.forget(), 12);
        edge.is("status() does not tell of it", b.status(), status);
        edge.is("count(3)", b.count(3), 0);
        edge.is("trend(0)", b.trend(0), GladBasket.NOTHING);
        edge.granted("hear() behind it is the first", b, x -> x.hear(5), 1);
        edge.is("what was HEARD ahead is gone", b.trend(0), GladBasket.NOTHING);
        b.hear(5);
        edge.is("trend(0)", b.trend(0), 0);
        edge.is("trend(2)", b.trend(2), 5);
    }

    // ---- IMAGES

    private static void imagesKeep() {
        edge.says("BACK to one all that it keeps is as it was then (IMAGES stay)");
        for (Edge.Scene scene : Edge.SCENES) {
            for (int k = 0; k < 2; k++) {
                int image = k;
                edge.alike("all of a basket changed, and back(" + k + ")", scene, x -> {
                    x.image(image);
                    x.end(0);
                    change(x);
                    return x.back(image);
                }, x -> {
                    x.image(image);
                    x.end(0);
                    Due.law(x, "x");
                    x.end(0);
                    return x.back(image);
                }, Edge.allLooks(), "fault()", "stopped()", "commas()");
            }
        }
    }

    /** As many as there can be of each, and then as many others. */
    private static void imagesKeepAll() {
        edge.says("IMAGES 0, 1 keep all but");
        for (int k = 0; k < 2; k++) {
            GladBasket b = new GladBasket();
            b.image(1 - k);
            fill(b, 0);
            b.image(k);
            b.back(1 - k);
            fill(b, 1);
            for (int good = 0; good < 8; good++) {
                b.own(good % 5, good, 1);
            }
            b.back(k);
            edge.is("HEARD: the rise", b.trend(0), 7);
            edge.is("HEARD: in month 0", b.trend(2), 900);
            for (int law = 0; law < 6; law++) {
                b.force(law);
                edge.is("LAW " + law, b.asks(0, 1), 10 + law);
            }
            for (int good = 0; good < 8; good++) {
                for (int what = 0; what < 6; what++) {
                    int[] want = {good + 1, 12 - good, 20 + good, good % 7, 3 * good, 0};
                    edge.is("of(" + good + ", " + what + ")", b.of(good, what), want[what]);
                }
                edge.is("of(" + good + ", 6)", b.of(good, 6), (good + 1) % 8);
                for (int person = 0; person < 5; person++) {
                    edge.is("own(" + person + ", " + good + ")", b.own(person, good, 0), (person + good) % 10);
                }
            }
        }
    }

    private static void fill(GladBasket b, int other) {
        for (int good = 0; good < 8; good++) {
            b.good(good + 1 - other * good, 12 - good, 20 + good + other, (good + other) % 7, 3 * good + other);
        }
        for (int good = 0; good < 8; good++) {
            b.stand(good, (good + 1 + other) % 8);
        }
        for (int person = 0; person < 5; person++) {
            b.person();
            for (int good = 0; good < 8 && other == 0; good++) {
                b.own(person, good, (person + good) % 10);
            }
        }
        for (int i = 0; i < 12; i++) {
            b.hear(900 + 7 * i - other * 60 * i);
        }
        for (int law = 0; law < 6; law++) {
            Due.law(b, "counts " + (10 + law + 20 * other));
        }
    }

    /** Something of all that can be, as far as there is room. */
    private static void change(GladBasket b) {
        b.good(7, 7, 7, 7, 7);
        b.stand(0, 1);
        b.stand(2, 0);
        b.person();
        b.own(0, 0, 6);
        b.own(1, 4, 6);
        for (int person = 0; person < 5; person++) {
            for (int good = 0; good < 8; good += 7 - person) {
                b.own(person, good, 8 - person);
            }
        }
        b.forget();
        b.hear(500);
        b.hear(3);
        b.terms(0, 500);
        b.terms(1, 5);
        b.terms(2, 2);
        Due.law(b, "moves 4;counts 9");
        b.force(0);
        b.lack(1);
        b.find(0);
        b.weigh(2, 88);
        b.pass();
        Due.law(b, "x");
    }

    private static void imagesDoNotKeep() {
        edge.says("IMAGES 0, 1 keep all but the TAPE, FAULT, COMMAS, where ORDERS stopped, what can be undone (nothing, "
                + "behind back()), the latest YEARS");
        GladBasket b = basket();
        b.weigh(0, 9);
        b.image(0);
        Due.orders(b, "pass;lack 9");
        Due.law(b, "bars 1");
        b.feed(0x01010101, 0, 0, 0, 0);
        b.row();
        b.years(3, 4);
        int drawn = b.drawn(1, 0) * 2 + b.drawn(1, 1);
        b.feed(0x01010101, 0x01010101, 0, 0, 0);
        b.end(7);
        b.weigh(0, 8);
        b.weigh(0, 7);
        edge.granted("back(0)", b, x -> x.back(0), 0);
        edge.is("the TAPE's bytes", b.count(6), 7);
        edge.is("FAULT", b.fault(), 5);
        edge.is("COMMAS", b.commas(), 4);
        edge.is("where ORDERS stopped", b.stopped(), 1);
        edge.is("what can be undone", b.count(5), 0);
        edge.is("undo()", b.undo(), -3);
        edge.is("the latest YEARS", b.drawn(1, 0) * 2 + b.drawn(1, 1), drawn);
        edge.is("WEIGHT is kept", b.of(0, 2), 9);
        edge.is("count(0)", b.count(0), 3);
        edge.is("the TAPE is still a ROW", b.row(), 1);
        edge.is("commas()", b.commas(), 1);
        b.image(1);
        b.end(0);
        b.feed(0, 0, 0, 0, 0);
        b.back(1);
        edge.is("the TAPE of an IMAGE does not come again", b.count(6), 20);
        b.weigh(0, 3);
        b.image(1);
        edge.is("image() leaves what can be undone", b.count(5), 1);
        b.back(1);
        edge.is("nothing, behind back()", b.count(5), 0);
    }

    private static void image() {
        edge.promises(39, "IMAGE k is kept: 0; -1.");
        for (int k : new int[] {-1, 2, MIN, MAX}) {
            edge.refusedEverywhere("image(" + k + ")", -1, x -> x.image(k));
        }
        GladBasket b = basket();
        edge.granted("image(0)", b, x -> x.image(0), 0);
        edge.granted("image(1)", b, x -> x.image(1), 0);
        b.weigh(0, 50);
        edge.granted("image(0) again: it is another", b, x -> x.image(0), 0);
        b.weigh(0, 60);
        b.back(1);
        edge.is("IMAGE 1", b.of(0, 2), 3);
        b.back(0);
        edge.is("IMAGE 0", b.of(0, 2), 50);
    }

    private static void back() {
        edge.promises(40, "BACK to IMAGE k: 0. -1; -2 it was not kept.");
        for (int k : new int[] {-1, 2, MIN, MAX}) {
            edge.refusedEverywhere("back(" + k + ")", -1, x -> x.back(k));
        }
        edge.refused("back(0)", Edge.EMPTY, -2, x -> x.back(0));
        edge.refused("back(1)", Edge.EMPTY, -2, x -> x.back(1));
        edge.refused("back(1), where the other was kept", Edge.MIDDLE, -2, x -> x.back(1));
        GladBasket b = basket();
        b.image(1);
        edge.is("back(0), where the other was kept", b.back(0), -2);
        edge.granted("back(1)", b, x -> x.back(1), 0);
        edge.granted("and again", b, x -> x.back(1), 0);
        GladBasket empty = new GladBasket();
        empty.image(0);
        Edge.FULL.set(empty);
        empty.image(0);
        empty.back(1);
        edge.is("a full basket's IMAGE 1", empty.count(0), 8);
        GladBasket c = new GladBasket();
        c.image(0);
        c.image(1);
        c.good(1, 1, 1, 1, 1);
        c.person();
        c.hear(1);
        Due.enforce(c, "bars");
        edge.granted("back to an empty basket", c, x -> x.back(0), 0);
        for (int what = 0; what < 5; what++) {
            edge.is("count(" + what + ")", c.count(what), 0);
        }
        edge.is("count(12)", c.count(12), NONE);
        edge.granted("its first GOOD", c, x -> x.good(2, 2, 2, 2, 2), 0);
        edge.granted("its first PERSON", c, x -> x.person(), 0);
        edge.is("OWN is 0 at first", c.own(0, 0, 1), 0);
        edge.is("its first LAW", Due.law(c, "moves 1"), 0);
        edge.is("a LAW of before is not there", c.force(1), -2);
    }

    // ---- What is told of all

    private static void count() {
        edge.promises(41, "0 GOODS, 1 how many are LACKING, 2 PEOPLE, 3 HEARD, 4 LAWS, 5 how many can be undone, 6 bytes of "
                + "the TAPE");
        edge.promises(41, "12 the LAW in FORCE, 13 .. 15 TERMS 0 .. 2. NONE for others.");
        for (int what : new int[] {-1, 16, 17, 100, MIN, MAX}) {
            edge.leavesAll("count(" + what + ")", NONE, x -> x.count(what));
        }
        GladBasket b = Edge.made(Edge.FULL);
        int[] most = {8, 1, 5, 12, 6, 16, 400, 0, 0, 0, 0, 0, 5, 999, 10, 9};
        for (int what = 0; what < 16; what++) {
            edge.is("count(" + what + ") of a full basket", b.count(what), most[what]);
        }
        b = Edge.made(Edge.MIDDLE);
        int[] some = {5, 1, 2, 3, 2, 5, 24, 0, 0, 1, 0, 1, 0, 41, 7, 5};
        for (int what = 0; what < 16; what++) {
            edge.is("count(" + what + ") of a basket in use", b.count(what), some[what]);
        }
    }

    private static void refusedCounts() {
        edge.promises(41, "7 .. 11 how many calls were REFUSED by -1, -2, -3, -5, -6 (IMAGES do not keep that)");
        GladBasket b = Edge.made(Edge.FULL);
        for (int i = 1; i <= 3; i++) {
            b.image(2);
            b.force(6);
            b.pass();
            b.person();
            b.end(0);
            b.orders();
            for (int what = 7; what <= 11; what++) {
                edge.is("count(" + what + ")", b.count(what), i);
            }
            b.image(1);
        }
        b.back(0);
        for (int what = 7; what <= 11; what++) {
            edge.is("count(" + what + ") behind back()", b.count(what), 3);
        }
    }

    private static void status() {
        edge.promises(42, "What the latest call of good, stand, person, own, terms, row, law, orders, force, lack, find, "
                + "weigh, pass, undo, hear, years, image, back was REFUSED by; 0 if it was not, or ahead of any.");
        edge.is("ahead of any", new GladBasket().status(), 0);
        GladBasket c = new GladBasket();
        c.feed(0, 0, 0, 0, 0);
        c.end(99);
        c.count(99);
        c.forget();
        edge.is("ahead of any of these", c.status(), 0);
        Edge.Call[] refused = {x -> x.good(0, 0, 0, 0, 0), x -> x.stand(0, 0), x -> x.own(0, 0, 10), x -> x.terms(3, 0),
            x -> x.force(6), x -> x.lack(8), x -> x.find(8), x -> x.weigh(0, 100), x -> x.pass(), x -> x.person(),
            x -> x.hear(1000), x -> x.years(0, 0), x -> x.image(2), x -> x.back(2), x -> x.end(0) + x.row(),
            x -> x.end(0) + x.law(), x -> x.end(0) + x.orders()};
        Edge.Call[] granted = {x -> x.stand(0, 1), x -> x.own(0, 0, 9), x -> x.terms(1, 0), x -> x.force(NONE),
            x -> x.lack(0), x -> x.find(4), x -> x.weigh(0, 99), x -> x.undo(), x -> x.years(0, 1), x -> x.image(0),
            x -> x.back(0), x -> x.row(), x -> x.end(0) + Due.orders(x, "find 4")};
        Edge.Call[] silent = {x -> x.of(0, 0), x -> x.of(9, 9), x -> x.asks(0, 0), x -> x.asks(9, 9),
            x -> x.feed(0, 0, 0, 0, 0), x -> x.end(0), x -> x.end(-1), x -> x.commas(), x -> x.fault(), x -> x.stopped(),
            x -> x.figure(0, 0), x -> x.figure(9, 9), x -> x.turned(0, 0), x -> x.turned(9, 9), x -> x.pension(),
            x -> x.glad(1, 0), x -> x.glad(-1, 0), x -> x.round(0, 0), x -> x.round(-1, 0), x -> x.spent(0, 0, 0),
            x -> x.spent(-1, 0, 0), x -> x.ask(0, 0, 0), x -> x.ask(-1, 0, 0), x -> x.fair(0, 0), x -> x.fair(9, 0),
            x -> x.forget(), x -> x.trend(0), x -> x.trend(9), x -> x.does(0), x -> x.does(9), x -> x.compare(0),
            x -> x.compare(9), x -> x.gets(0, 0), x -> x.gets(9, 0), x -> x.drawn(0, 0), x -> x.drawn(9, 0),
            x -> x.count(0), x -> x.count(99), x -> x.status()};
        for (Edge.Call call : refused) {
            GladBasket b = Edge.made(Edge.FULL);
            long by = call.on(b);
            edge.holds("it is REFUSED", by < 0);
            edge.is("status()", b.status(), by);
            for (Edge.Call other : silent) {
                other.on(b);
            }
            edge.is("status() behind calls that it does not tell of", b.status(), by);
            b = Edge.made(Edge.FULL);
            b.image(2);
            call.on(b);
            edge.is("the latest", b.status(), by);
        }
        for (Edge.Call call : granted) {
            GladBasket b = Edge.made(Edge.FULL);
            b.image(2);
            edge.is("status()", b.status(), -1);
            call.on(b);
            edge.is("status() behind one that was not REFUSED", b.status(), 0);
        }
        for (Edge.Call call : new Edge.Call[] {x -> x.good(1, 1, 1, 1, 1), x -> x.person(), x -> x.hear(0),
            x -> x.pass(), x -> x.end(0) + Due.law(x, "bars")}) {
            GladBasket b = Edge.made(Edge.MIDDLE);
            b.image(2);
            call.on(b);
            edge.is("status() behind one for which there is room", b.status(), 0);
        }
    }
}
