import java.io.IOException;

/** Edges of ORDERS (Terms II), and of promises 14 and 16. */
public final class EdgesOrdersTest {
    private static final int NONE = GladBasket.NONE;
    private static Edge edge;

    public static void main(String[] args) throws IOException {
        edge = new Edge("EdgesOrdersTest");
        clauses();
        times();
        words();
        goodsOfWords();
        parts();
        limitsOfBothLanguages();
        whatTheyDo();
        howOften();
        eachTimeItsIf();
        doneAndLatest();
        otherWords();
        cannotBe();
        brokenSums();
        asItWasAhead();
        sixteenAreKept();
        refused();
        stopped();
        edge.finish();
    }

    private static void goods(GladBasket b) {
        b.good(2, 4, 3, 5, 0);
        b.good(3, 6, 2, 1, 24);
        b.good(6, 3, 1, 9, 4);
    }

    private static GladBasket basket() {
        return Edge.made(EdgesOrdersTest::goods);
    }

    private static int ordersOf(GladBasket b, String text) {
        b.end(0);
        return Due.orders(b, text);
    }

    private static void fault(String text, int place) {
        GladBasket b = basket();
        edge.is("orders() of '" + text + "'", ordersOf(b, text), -6);
        edge.is("FAULT of '" + text + "'", b.fault(), place);
        edge.is("stopped() of '" + text + "'", b.stopped(), NONE);
        edge.is("count(5) of '" + text + "'", b.count(5), 0);
        edge.is("count(6) of '" + text + "'", b.count(6), 0);
    }

    private static void runs(String text, int done) {
        GladBasket b = basket();
        edge.is("orders() of '" + text + "'", ordersOf(b, text), done);
        edge.is("FAULT of '" + text + "'", b.fault(), NONE);
        edge.is("status() of '" + text + "'", b.status(), 0);
        edge.is("stopped() of '" + text + "'", b.stopped(), NONE);
        edge.is("count(6) of '" + text + "'", b.count(6), 0);
    }

    // ---- What ORDERS can be

    private static void clauses() {
        edge.says("ORDERS: CLAUSE: (\"lack\" SUM | \"find\" SUM | \"weigh\" SUM \"by\" SUM | \"pass\") [\"times\" TIMES] "
                + "[\"if\" TEST].");
        runs("lack 0", 1);
        runs("lack 0;find 0", 2);
        runs("weigh 0 by 0", 1);
        runs("pass", 1);
        runs("pass times 1", 1);
        runs("pass if 1=1", 1);
        runs("pass times 2 if 1=1", 2);
        runs("weigh 0 by 1 times 2 if 1=1", 2);
        runs("pass times2if1=1", 2);
        fault("passtimes 2", 0);
        fault("passif1=1", 0);
        fault("pass if 1=1 times 2", 12);
        fault("pass times 2 times 2", 13);
        fault("pass 1", 5);
        fault("pass;", 5);
        fault("pass;;pass", 5);
        fault("lack", 4);
        fault("lack;", 4);
        fault("lack 0 1", 7);
        fault("lack 0 by 1", 7);
        fault("find", 4);
        fault("find if 1=1", 5);
        fault("weigh 0", 7);
        fault("weigh 0 1", 8);
        fault("weigh by 1", 6);
        fault("weigh 0 by", 10);
        fault("weigh 0 by by", 11);
        fault("weigh 0 by 1 by 2", 13);
        fault("weigh 0 times 2 by 1", 8);
        fault("moves 1", 0);
        fault("bars", 0);
        fault("Pass", 0);
        fault("passes", 0);
        fault("lack good", 5);
        fault("lack base", 5);
        fault("lack mood", 5);
        fault("lack glad", 5);
        fault("lack lacks", 5);
        fault("lack place", 5);
        edge.promises(14, "-6 (as for law()).");
        fault("", 0);
        fault("   ", 3);
        fault(" ".repeat(400), 400);
    }

    private static void times() {
        edge.says("TIMES: a NUMBER 1 .. 20.");
        fault("pass times 0", 11);
        runs("pass times 1", 1);
        runs("pass times 20", 20);
        fault("pass times 21", 11);
        fault("pass times 100", 11);
        fault("pass times 1001", 11);
        fault("pass times 4294967297", 11);
        fault("pass times", 10);
        fault("pass times if 1=1", 11);
        fault("pass times -1", 11);
        fault("pass times [2]", 11);
        fault("pass times done", 11);
        fault("pass times 2+2", 12);
        fault("pass times 2 3", 13);
    }

    private static void words() {
        edge.says("Words: \"month\" | \"done\" | \"latest\" | \"figure\" | \"lacking\" |");
        for (String word : "month done latest figure lacking".split(" ")) {
            runs("weigh 0 by 0*" + word, 1);
            fault("weigh 0 by 0*" + word + "s", 13);
            fault("weigh 0 by 0*" + word.substring(1), 13);
            fault("weigh 0 by 0*" + word + " 0", 14 + word.length());
            fault(word, 0);
        }
    }

    private static void goodsOfWords() {
        edge.says("\"now\" G | \"weight\" G (G: a NUMBER 0 .. 7)");
        runs("weigh 0 by now 0", 1);
        runs("weigh 0 by now 7+1", 1);
        runs("weigh 0 by weight 7+1", 1);
        runs("weigh 0 by weight 0", 1);
        runs("weigh 0 by now0+weight0", 1);
        fault("weigh 0 by now 8", 15);
        fault("weigh 0 by weight 8", 18);
        fault("weigh 0 by now 10", 15);
        fault("weigh 0 by now 1000", 15);
        fault("weigh 0 by now 4294967296", 15);
        fault("weigh 0 by now", 14);
        fault("weigh 0 by weight", 17);
        fault("weigh 0 by now now 0", 15);
        fault("weigh 0 by now [0]", 15);
        fault("weigh 0 by now done", 15);
        fault("weigh 0 by now -1", 15);
        fault("weigh 0 by month 0", 17);
        fault("weigh 0 by done 0", 16);
    }

    private static void parts() {
        edge.says("G, TIMES aside, NUMBERS and words count as PARTS.");
        String fifty = "weigh 0 by [now 0" + "+now 0".repeat(48) + "]/90";
        // the GOOD, 49 times NOW and 90 are 51
        fault(fifty, fifty.length() - 2);
        String enough = "weigh 0 by [now 0" + "+now 0".repeat(47) + "]/90";
        runs(enough, 1);
        runs(enough + " times 20", 20);
        runs(enough + " times 20;pass times 20", 40);
        fault(enough + " times 20 if now 0=1", enough.length() + 13);
        fault(enough + " times 20 if ", enough.length() + 13);
        fault(enough + ";lack 0", enough.length() + 6);
    }

    private static void limitsOfBothLanguages() {
        edge.says("Of both languages: CLAUSE {\";\" CLAUSE}, 12 at most (FAULT at the 13th's first TOKEN).");
        runs("pass;".repeat(11) + "pass", 12);
        runs("pass;".repeat(11) + "pass if 1=1", 12);
        runs("pass;".repeat(11) + "pass if 1=2", 11);
        runs("pass;".repeat(11) + "pass times 3 if month<13", 13);
        runs("pass if 1=2;".repeat(11) + "pass", 1);
        fault("pass;".repeat(12) + " pass", 61);
        fault("pass;".repeat(12), 60);
        runs("lack " + "[".repeat(8) + "0" + "]".repeat(8), 1);
        fault("lack " + "[".repeat(9) + "0" + "]".repeat(9), 13);
        runs("weigh 0 by " + "[".repeat(8) + "0" + "]".repeat(8), 1);
        fault("weigh 0 by " + "[".repeat(9) + "0" + "]".repeat(9), 19);
        runs("weigh " + "[".repeat(8) + "0" + "]".repeat(8) + " by " + "[".repeat(8) + "0" + "]".repeat(8), 1);
        runs("pass if " + "(".repeat(8) + "1=1" + ")".repeat(8), 1);
        fault("pass if " + "(".repeat(9) + "1=1" + ")".repeat(9), 16);
        runs("weigh 0 by 1000/1000", 1);
        fault("weigh 0 by 1001/1000", 11);
        fault("lack 0" + "+0".repeat(50), 105);
        runs("lack 0" + "+0".repeat(49), 1);
    }

    // ---- How they are run

    private static void whatTheyDo() {
        edge.says("(a GOOD; a GOOD; a GOOD, its WEIGHT; a MONTH.)");
        GladBasket b = basket();
        edge.granted("lack 2", b, x -> ordersOf(x, "lack 2"), 1);
        edge.is("of(2, 5)", b.of(2, 5), 1);
        edge.is("count(1)", b.count(1), 1);
        edge.granted("weigh 1 by 99", b, x -> ordersOf(x, "weigh 1 by 99"), 1);
        edge.is("of(1, 2)", b.of(1, 2), 99);
        edge.granted("weigh 1 by 0", b, x -> ordersOf(x, "weigh 1 by 0"), 1);
        edge.is("of(1, 2)", b.of(1, 2), 0);
        edge.granted("pass", b, x -> ordersOf(x, "pass"), 1);
        edge.is("count(13)", b.count(13), 1);
        edge.granted("find 2", b, x -> ordersOf(x, "find 2"), 1);
        edge.is("of(2, 5)", b.of(2, 5), 0);
        int[] kinds = {1, 3, 2, 2, 0, -3};
        for (int kind : kinds) {
            edge.is("undo()", b.undo(), kind);
        }
    }

    private static void howOften() {
        edge.says("Run CLAUSE by CLAUSE, each as often as TIMES tell (once without)");
        edge.promises(14, "ORDERS, the TAPE is empty then: how many were run.");
        GladBasket b = basket();
        edge.granted("pass twenty times", b, x -> ordersOf(x, "pass times 20"), 20);
        edge.is("count(13)", b.count(13), 20);
        edge.granted("twelve by twenty", b, x -> ordersOf(x, "pass times 20;".repeat(11) + "pass times 20"), 240);
        edge.is("count(13)", b.count(13), 260);
        edge.granted("none", b, x -> ordersOf(x, "pass times 20 if 1=2"), 0);
        edge.is("count(13)", b.count(13), 260);
        edge.is("the TAPE is empty then", b.count(6), 0);
        b = basket();
        edge.granted("in their order", b, x -> ordersOf(x, "weigh 0 by 7;weigh 1 by weight 0;weigh 0 by 9"), 3);
        edge.is("of(1, 2)", b.of(1, 2), 7);
        edge.is("of(0, 2)", b.of(0, 2), 9);
        edge.granted("all of one CLAUSE ahead of the next", b, x -> ordersOf(x, "pass times 3;weigh 0 by month"), 4);
        edge.is("of(0, 2)", b.of(0, 2), 3);
    }

    private static void eachTimeItsIf() {
        edge.says("each time its \"if\" is asked (not run, if it is not so or BROKEN), then its SUMS from the left");
        GladBasket b = basket();
        edge.granted("three of twenty", b, x -> ordersOf(x, "pass times 20 if month<3"), 3);
        edge.granted("not so, then so", b, x -> ordersOf(x, "pass times 2 if month=4;pass;pass times 2 if month=4"), 2);
        edge.is("count(13)", b.count(13), 5);
        edge.granted("BROKEN", b, x -> ordersOf(x, "pass if 1/0=1;pass if not 1/0=1;lack 0 if 1%0<1"), 0);
        edge.granted("BROKEN until it is not", b, x -> ordersOf(x, "lack 0 times 2 if 1/done=1;pass;lack 0 if 1/done=1"), 2);
        edge.is("of(0, 5)", b.of(0, 5), 1);
        edge.granted("what can't be is not asked, if it is not run", b, x -> ordersOf(x, "lack 9 if 1=2;lack 1/0 if 1=2"), 0);
        edge.granted("each time its SUM", b, x -> ordersOf(x, "lack done+1 times 2"), 2);
        edge.is("count(1)", b.count(1), 3);
        edge.granted("or", b, x -> ordersOf(x, "pass if 1=1 or 1/0=1"), 1);
        edge.granted("and", b, x -> ordersOf(x, "pass if 1=2 and 1/0=1 or 1=1"), 1);
    }

    private static void doneAndLatest() {
        edge.says("done: how many were run in this TEXT, latest: what the latest weigh in it told (-1: none)");
        GladBasket b = basket();
        edge.granted("done at first", b, x -> ordersOf(x, "weigh 0 by done"), 1);
        edge.is("of(0, 2)", b.of(0, 2), 0);
        edge.granted("what was not run is not done", b, x -> ordersOf(x, "pass times 3;pass if 1=2;weigh 0 by done"), 4);
        edge.is("of(0, 2)", b.of(0, 2), 3);
        edge.granted("done is of this TEXT", b, x -> ordersOf(x, "weigh 0 by done+10"), 1);
        edge.is("of(0, 2)", b.of(0, 2), 10);
        edge.granted("latest without", b, x -> ordersOf(x, "pass;lack 0;find 0;weigh 0 by latest+5"), 4);
        edge.is("of(0, 2)", b.of(0, 2), 4);
        edge.granted("what a weigh told: WEIGHT as it was", b, x -> ordersOf(x, "weigh 0 by 90;weigh 1 by latest"), 2);
        edge.is("of(1, 2)", b.of(1, 2), 4);
        edge.granted("the latest of two", b, x -> ordersOf(x, "weigh 0 by 1;weigh 0 by 2;weigh 1 by latest"), 3);
        edge.is("of(1, 2)", b.of(1, 2), 1);
        edge.granted("0 is told, too", b, x -> ordersOf(x, "weigh 0 by 0;weigh 0 by 8;weigh 1 by latest+20"), 3);
        edge.is("of(1, 2)", b.of(1, 2), 20);
        edge.granted("other ORDERS leave it", b, x -> ordersOf(x, "weigh 0 by 5;pass;lack 2;weigh 1 by latest"), 4);
        edge.is("of(1, 2)", b.of(1, 2), 8);
        edge.granted("it is of this TEXT", b, x -> ordersOf(x, "weigh 1 by latest+1"), 1);
        edge.is("of(1, 2)", b.of(1, 2), 0);
    }

    private static void otherWords() {
        edge.says("figure: PENSION, lacking: how many are LACKING, now, weight: -1 without such a GOOD");
        GladBasket b = basket();
        edge.granted("now 2, the last", b, x -> ordersOf(x, "weigh 0 by now 2"), 1);
        edge.is("of(0, 2)", b.of(0, 2), 3);
        edge.granted("now 3, one beyond", b, x -> ordersOf(x, "weigh 0 by now 3+1"), 1);
        edge.is("of(0, 2)", b.of(0, 2), 0);
        edge.granted("weight 2, the last", b, x -> ordersOf(x, "weigh 0 by weight 2"), 1);
        edge.is("of(0, 2)", b.of(0, 2), 1);
        edge.granted("weight 3, one beyond", b, x -> ordersOf(x, "weigh 0 by weight 3+1"), 1);
        edge.is("of(0, 2)", b.of(0, 2), 0);
        edge.granted("weight 7", b, x -> ordersOf(x, "weigh 0 by weight 7+now 7+2"), 1);
        edge.is("of(0, 2)", b.of(0, 2), 0);
        edge.granted("lacking, none and all", b, x -> ordersOf(x, "weigh 1 by lacking;lack lacking times 3;weigh 2 by lacking"), 5);
        edge.is("of(1, 2)", b.of(1, 2), 0);
        edge.is("of(2, 2)", b.of(2, 2), 3);
        edge.granted("figure, if nothing COUNTS", b, x -> ordersOf(x, "weigh 0 by figure-50"), 1);
        edge.is("of(0, 2)", b.of(0, 2), 50);
        edge.granted("figure", b, x -> ordersOf(x, "find 0;weigh 1 by figure-150"), 2);
        edge.is("of(1, 2)", b.of(1, 2), 50);
        b = basket();
        // 12 + 12 + 3 by 6 + 6 + 6
        edge.granted("figure ahead of other words", b, x -> ordersOf(x, "weigh 2 by figure-100+month+done*0+now 0*0"), 1);
        edge.is("of(2, 2)", b.of(2, 2), 50);
        // 24 + 3 * 50 by 12 + 6 * 50 are 55 of a hundred, 24 + 3 * 5 by 12 + 6 * 5 are 92
        edge.granted("figure as it is each time", b, x -> ordersOf(x, "weigh 2 by figure%10 times 2 if month=0"), 2);
        edge.is("of(2, 2)", b.of(2, 2), 2);
        b = basket();
        Due.enforce(b, "counts 0;counts 1 if good=2");
        edge.granted("figure by the LAW in FORCE", b, x -> ordersOf(x, "weigh 0 by figure"), 1);
        edge.is("of(0, 2)", b.of(0, 2), 50);
        b = basket();
        Due.enforce(b, "moves 1+good");
        edge.granted("now as it is behind a MONTH", b, x -> ordersOf(x, "pass times 2;weigh 0 by now 1;weigh 1 by weight 0+1"), 4);
        edge.is("of(0, 2)", b.of(0, 2), 10);
        edge.is("of(1, 2)", b.of(1, 2), 11);
        GladBasket empty = new GladBasket();
        edge.granted("without any GOOD", empty, x -> ordersOf(x, "pass if now 0=0-1 and weight 0=0-1 and figure=100"), 1);
    }

    // ---- What can't be

    /** One that can't be: its CLAUSE is told, the TAPE is empty, and all else is as it was. */
    private static void cannot(String text, int clause) {
        for (Edge.Scene scene : new Edge.Scene[] {EdgesOrdersTest::goods, Edge.MIDDLE}) {
            edge.refusedBut("orders() of '" + text + "'", scene, -3, x -> ordersOf(x, text), x -> x.end(0), "fault()",
                    "stopped()");
            GladBasket b = Edge.made(scene);
            ordersOf(b, text);
            edge.is("stopped() of '" + text + "'", b.stopped(), clause);
            edge.is("fault() of '" + text + "'", b.fault(), NONE);
        }
    }

    private static void cannotBe() {
        edge.says("One that can't be (a BROKEN SUM, as lack(), find(), weigh(), pass() are REFUSED) ends it: all is as it "
                + "was ahead of it.");
        cannot("lack 8", 0);
        cannot("lack 0-1", 0);
        cannot("lack 1000*1000*1000", 0);
        cannot("lack 1;lack 1", 1);
        cannot("lack 1 times 2", 0);
        cannot("find 1", 0);
        cannot("find 8", 0);
        cannot("find 0-1", 0);
        cannot("weigh 0 by 100", 0);
        cannot("weigh 0 by 0-1", 0);
        cannot("weigh 8 by 1", 0);
        cannot("weigh 0-1 by 1", 0);
        cannot("pass times 20;".repeat(11) + "find 1", 11);
        cannot("weigh 0 by 99;weigh 1 by 98;pass times 20;lack 1;find 1;lack 2;weigh 2 by 100;pass", 6);
        edge.refusedBut("pass at MONTH 999", Edge.FULL, -3, x -> ordersOf(x, "pass"), x -> x.end(0), "fault()", "stopped()");
        edge.refusedBut("pass to MONTH 999 and beyond", x -> {
            goods(x);
            x.terms(0, 980);
        }, -3, x -> ordersOf(x, "pass times 19;pass"), x -> x.end(0), "fault()", "stopped()");
        GladBasket b = basket();
        b.terms(0, 980);
        edge.granted("pass to MONTH 999", b, x -> ordersOf(x, "pass times 19"), 19);
    }

    private static void brokenSums() {
        edge.says("a BROKEN SUM");
        cannot("lack 1/0", 0);
        cannot("find 1%0", 0);
        cannot("weigh 1/0 by 1", 0);
        cannot("weigh 0 by 1/0", 0);
        cannot("weigh 0 by 1/done", 0);
        cannot("weigh 0 by 100/[100-figure*0-100]", 0);
        cannot("weigh 0 by 1000*1000*1000*1000", 0);
        cannot("pass;weigh 0 by 0*[1000*1000*1000+1]", 1);
        GladBasket b = basket();
        edge.granted("a billion is not BROKEN", b, x -> ordersOf(x, "weigh 0 by 1000*1000*1000/1000/1000/1000"), 1);
    }

    private static void asItWasAhead() {
        edge.says("all is as it was ahead of it");
        GladBasket b = basket();
        Due.enforce(b, "moves 1");
        b.weigh(0, 50);
        b.pass();
        b.lack(0);
        edge.is("all kinds, and one that can't be", ordersOf(b, "find 0;weigh 0 by 9;pass times 2;lack 1;lack 1"), -3);
        edge.is("of(0, 5)", b.of(0, 5), 1);
        edge.is("of(0, 2)", b.of(0, 2), 50);
        edge.is("of(0, 1)", b.of(0, 1), 5);
        edge.is("count(13)", b.count(13), 1);
        edge.is("count(5)", b.count(5), 3);
        int[] kinds = {0, 3, 2, -3};
        for (int kind : kinds) {
            edge.is("undo()", b.undo(), kind);
        }
        edge.is("of(0, 1)", b.of(0, 1), 4);
        pricesToUndo();
    }

    /** ORDERS that can't be leave all sixteen changes to undo, with the prices ahead of each. */
    private static void pricesToUndo() {
        for (String text : new String[] {"pass times 20;lack 9", "pass;lack 9", "weigh 0 by 1 times 20;lack 9"}) {
            GladBasket b = new GladBasket();
            for (int good = 0; good < 8; good++) {
                b.good(1, 1 + good, 1, 1, 1);
            }
            Due.enforce(b, "moves 1;moves 0-11 if now>11");
            int[][] seen = new int[20][8];
            for (int month = 0; month < 20; month++) {
                for (int good = 0; good < 8; good++) {
                    seen[month][good] = b.of(good, 1);
                }
                b.pass();
            }
            edge.is(text, ordersOf(b, text), -3);
            for (int month = 19; month >= 4; month--) {
                edge.is("undo() behind " + text, b.undo(), 3);
                edge.is("count(13)", b.count(13), month);
                for (int good = 0; good < 8; good++) {
                    edge.is("of(" + good + ", 1) in MONTH " + month, b.of(good, 1), seen[month][good]);
                }
            }
            edge.is("undo() of a 17th", b.undo(), -3);
        }
    }

    private static void sixteenAreKept() {
        edge.promises(22, "(by ORDERS, too; 16 are kept)");
        GladBasket b = basket();
        b.weigh(0, 77);
        edge.granted("fifteen", b, x -> ordersOf(x, "pass times 15"), 15);
        edge.is("count(5)", b.count(5), 16);
        edge.is("twenty, and one that can't be", ordersOf(b, "pass times 20;lack 9"), -3);
        edge.is("count(5)", b.count(5), 16);
        for (int i = 0; i < 15; i++) {
            edge.is("undo() of a MONTH", b.undo(), 3);
        }
        edge.is("undo() of the first", b.undo(), 2);
        edge.is("of(0, 2)", b.of(0, 2), 3);
        edge.granted("seventeen", b, x -> ordersOf(x, "weigh 0 by 77;pass times 16"), 17);
        edge.is("count(5)", b.count(5), 16);
        for (int i = 0; i < 16; i++) {
            edge.is("undo() of a MONTH", b.undo(), 3);
        }
        edge.is("the first is not kept", b.undo(), -3);
        edge.is("of(0, 2)", b.of(0, 2), 77);
        edge.is("count(13)", b.count(13), 0);
    }

    private static void refused() {
        edge.promises(14, "-3 one can't be; -6 (as for law()).");
        for (Edge.Scene scene : Edge.SCENES) {
            for (String text : new String[] {"", "  ", "x", "pass;", "pass times 21", "lack 99;pass x"}) {
                edge.refusedBut("orders() of '" + text + "'", scene, -6, x -> ordersOf(x, text), x -> x.end(0), "fault()",
                        "stopped()");
            }
            edge.refusedBut("orders() of 'lack 99'", scene, -3, x -> ordersOf(x, "lack 99"), x -> x.end(0), "fault()",
                    "stopped()");
        }
        GladBasket b = basket();
        ordersOf(b, "weigh 9 by 100;pass");
        edge.is("what can't be within is REFUSED by -3 alone: -1", b.count(7), 0);
        edge.is("-2", b.count(8), 0);
        edge.is("-3", b.count(9), 1);
    }

    private static void stopped() {
        edge.promises(16, "Which CLAUSE of the latest orders() could not be. NONE.");
        GladBasket b = basket();
        edge.is("ahead of any", b.stopped(), NONE);
        ordersOf(b, "lack 9");
        edge.is("the first", b.stopped(), 0);
        ordersOf(b, "pass;".repeat(11) + "lack 9");
        edge.is("the twelfth", b.stopped(), 11);
        Due.law(b, "x");
        Due.law(b, "bars");
        b.row();
        b.pass();
        b.lack(9);
        edge.is("other calls leave it", b.stopped(), 11);
        ordersOf(b, "pass if 1=2;lack 0;lack 0 times 3");
        edge.is("the third, at its first time", b.stopped(), 2);
        ordersOf(b, "pass x");
        edge.is("none, behind a FAULT", b.stopped(), NONE);
        ordersOf(b, "pass;lack 0 times 20");
        edge.is("the second, at its second time", b.stopped(), 1);
        ordersOf(b, "pass");
        edge.is("none, if all could be", b.stopped(), NONE);
        edge.leavesAll("stopped()", Edge.MIDDLE, 1, x -> x.stopped());
    }
}
