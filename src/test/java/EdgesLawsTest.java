import java.io.IOException;

/** Edges of the languages in Terms II as LAWS have them, and of promises 13, 15, 17. */
public final class EdgesLawsTest {
    private static final int NONE = GladBasket.NONE;
    private static final int MIN = Edge.MIN;
    private static final int MAX = Edge.MAX;
    private static Edge edge;

    public static void main(String[] args) throws IOException {
        edge = new Edge("EdgesLawsTest");
        tokens();
        blanks();
        twelveClauses();
        grammarOfTests();
        grammarOfSums();
        numbers();
        fiftyParts();
        eightBrackets();
        faultAtTheEnd();
        beyondABillion();
        dividedByNothing();
        cutTowardsNothing();
        onlyIfItMatters();
        sixLaws();
        noneInForce();
        clauses();
        words();
        askedOfAGood();
        holds();
        moves();
        counts();
        glads();
        bars();
        lawRefused();
        fault();
        force();
        edge.finish();
    }

    // ---- What texts can be

    private static void fault(String text, int place) {
        GladBasket b = new GladBasket();
        edge.is("law() of '" + text + "'", Due.law(b, text), place == NONE ? 0 : -6);
        edge.is("FAULT of '" + text + "'", b.fault(), place);
        edge.is("status() of '" + text + "'", b.status(), place == NONE ? 0 : -6);
        edge.is("count(4) of '" + text + "'", b.count(4), place == NONE ? 1 : 0);
        edge.is("count(6) of '" + text + "'", b.count(6), 0);
        edge.is("count(11) of '" + text + "'", b.count(11), place == NONE ? 0 : 1);
    }

    private static void fine(String text) {
        fault(text, NONE);
    }

    private static void tokens() {
        edge.says("TOKENS: longest rows of letters a .. z, of digits, single other bytes");
        fine("moves1");
        fine("moves1if1=1");
        fine("moves1;bars");
        fault("movesif", 0);
        fault("movesa1", 0);
        fault("movesz1", 0);
        fault("moves`1", 5);
        fault("moves{1", 5);
        fault("moves1ifgood=1and2=2", 6);
        fine("moves 1 if good=1and 2=2");
        fine("moves now+1if 1=1");
        fault("moves 12 3", 9);
        fault("moves 1/", 8);
        fault("moves 1:", 7);
        fault("moves now1", 9);
        fault("Moves 1", 0);
        fault("mOves 1", 0);
        fault("moves A", 6);
        fault("moves 1 if 1==1", 13);
        fault("moves 1 if 1<>1", 13);
        fault("moves 1 if 1<=1", 13);
        fault("bars\u00ff", 4);
        fault("\u0080bars", 0);
        fault("\u0000bars", 0);
    }

    private static void blanks() {
        edge.says("any blanks (32) between");
        fine("   bars   ");
        fine("bars   if    1   =   1   ;   bars");
        fine("moves 1  +  [  2  ]");
        fault("ba rs", 0);
        fault("moves 1 0", 8);
        for (char other : new char[] {9, 10, 13, 31, 33, 160}) {
            fault("moves" + other + "1", 5);
            fault("bars" + other, 4);
        }
    }

    private static void twelveClauses() {
        edge.says("CLAUSE {\";\" CLAUSE}, 12 at most (FAULT at the 13th's first TOKEN)");
        fine("bars;".repeat(11) + "bars");
        fault("bars;".repeat(12) + "bars", 60);
        fault("bars;".repeat(12) + "   bars", 63);
        fault("bars;".repeat(12) + "5", 60);
        fault("bars;".repeat(12) + ";", 60);
        fault("bars;".repeat(12), 60);
        fault("bars;".repeat(12) + "  ", 62);
        fault("bars;".repeat(11) + "bars bars", 60);
        fault("bars;".repeat(11), 55);
        fault(";", 0);
        fault(";bars", 0);
        fault("bars;", 5);
        fault("bars;;bars", 5);
        asked("moves 1;".repeat(11) + "moves 5", 0, 5);
        asked("moves 1;".repeat(11) + "moves 5 if 1=1", 0, 5);
        asked("moves 1;".repeat(11) + "moves 5 if 1=2", 0, 1);
        asked("moves 5;" + "moves 1 if 1=2;".repeat(10) + "moves 1 if 1=2", 0, 5);
        GladBasket b = new GladBasket();
        for (int law = 0; law < 6; law++) {
            edge.is("twelve in each TEXT: " + law, Due.law(b, "bars;".repeat(11) + "bars"), law);
        }
    }

    private static void grammarOfTests() {
        edge.says("TEST: BOTH {\"or\" BOTH}. BOTH: PLAIN {\"and\" PLAIN}. PLAIN: \"not\" PLAIN | \"(\" TEST \")\" | "
                + "SUM (\"<\" | \">\" | \"=\") SUM.");
        fine("bars if 1<2");
        fine("bars if 1>2");
        fine("bars if 1=2");
        fine("bars if not 1=2");
        fine("bars if not not not 1=2");
        fine("bars if not (1=2)");
        fine("bars if (not 1=2)");
        fine("bars if ((1=2) and 1=2 or not (1=2 or 2=3))");
        fine("bars if 1=2 and not 2=3 or not 3=4 and 4=5");
        fault("bars if", 7);
        fault("bars if not", 11);
        fault("bars if not or", 12);
        fault("bars if or", 8);
        fault("bars if and", 8);
        fault("bars if ()", 9);
        fault("bars if (1=2", 12);
        fault("bars if (1=2]", 12);
        fault("bars if (1=2))", 13);
        fault("bars if 1=2)", 11);
        fault("bars if (1)=2", 10);
        fault("bars if (1+2)", 12);
        fault("bars if 1", 9);
        fault("bars if 1;", 9);
        fault("bars if 1=", 10);
        fault("bars if 1=(2)", 10);
        fault("bars if 1=not 2", 10);
        fault("bars if 1=2=3", 11);
        fault("bars if 1<2>3", 11);
        fault("bars if 1=2 3=4", 12);
        fault("bars if 1=2 and", 15);
        fault("bars if 1=2 and;", 15);
        fault("bars if 1=2 or or", 15);
        fault("bars if 1=2 not 3=4", 12);
        fault("bars if 1 and 2=2", 10);
        fault("bars if if 1=1", 8);
        holds("1=1", true);
        holds("not 1=1", false);
        holds("not not 1=1", true);
        holds("not (not 1=1)", true);
        holds("not (not (not 1=1))", false);
        holds("not 1=2 and not (not 1=1)", true);
        holds("not 1=1 or 1=1", true);
        holds("not (1=1 or 1=1)", false);
        holds("not 1=2 and 1=2", false);
        holds("1=1 or 1=1 and 1=2", true);
        holds("(1=1 or 1=1) and 1=2", false);
        holds("1=2 and 1=2 or 1=1", true);
        holds("1=2 and (1=2 or 1=1)", false);
        holds("1<1", false);
        holds("1<2", true);
        holds("1>1", false);
        holds("2>1", true);
        for (String no : new String[] {"2<1", "1<1", "1>2", "1>1", "1=2", "2=1"}) {
            holds(no, false);
            holds("not " + no, true);
            holds("not not " + no, false);
            holds("not (" + no + " and 1=1)", true);
            holds("not (1=1 and " + no + ")", true);
            holds(no + " or 1=1", true);
            holds("not (" + no + " or " + no + ")", true);
        }
        for (String yes : new String[] {"1<2", "2>1", "2=2"}) {
            holds(yes, true);
            holds("not " + yes, false);
            holds("not not " + yes, true);
            holds("not (" + yes + " or 1=2)", false);
            holds("not (1=2 or " + yes + ")", false);
            holds(yes + " and 1=2", false);
            holds("not (" + yes + " and " + yes + ")", false);
        }
    }

    private static void grammarOfSums() {
        edge.says("SUM: TERM {(\"+\" | \"-\") TERM}. TERM: PART {(\"*\" | \"/\" | \"%\") PART}. PART: NUMBER (to 1,000) "
                + "| \"[\" SUM \"]\" | a word, as told.");
        fine("moves 1+2-3*4/5%6");
        fine("moves [1+2]*[3-4]");
        fine("moves [[good]]");
        counts("2+3*4", 14);
        counts("[2+3]*4", 20);
        counts("20-5-4", 11);
        counts("20-[5-4]", 19);
        counts("60/6/2", 5);
        counts("60/[6/2]", 20);
        counts("60%7*3", 12);
        counts("60%[7*3]", 18);
        fault("moves", 5);
        fault("moves +1", 6);
        fault("moves -1", 6);
        fault("moves 1+", 8);
        fault("moves 1+-1", 8);
        fault("moves 1**2", 8);
        fault("moves 1*+2", 8);
        fault("moves *", 6);
        fault("moves []", 7);
        fault("moves [", 7);
        fault("moves [1", 8);
        fault("moves [1)", 8);
        fault("moves [1]]", 9);
        fault("moves 1]", 7);
        fault("moves [1=1]", 8);
        fault("moves [1][2]", 9);
        fault("moves 1 good", 8);
        fault("moves (1)", 6);
        fault("moves 1=1", 7);
        fault("moves moves", 6);
        fault("moves if 1=1", 6);
        fault("moves not", 6);
        fault("moves month month", 12);
        fault("moves done", 6);
        fault("moves latest", 6);
        fault("moves figure", 6);
        fault("moves lacking", 6);
        fault("moves lack", 6);
        fault("moves goods", 6);
        fault("moves goo", 6);
        fault("moves x", 6);
    }

    private static void numbers() {
        edge.says("NUMBER (to 1,000)");
        fine("moves 0");
        fine("moves 999");
        fine("moves 1000");
        fault("moves 1001", 6);
        fault("moves 9999", 6);
        fault("moves 10000", 6);
        fault("moves 2147483648", 6);
        fault("moves 4294967296", 6);
        fault("moves 18446744073709551617", 6);
        fault("moves 1" + "0".repeat(300), 6);
        fault("moves 1,000", 7);
        fault("moves 1.5", 7);
        fault("moves 1+1001", 8);
        fine("moves 1000+1000");
    }

    private static void fiftyParts() {
        edge.says("50 PARTS that are NUMBERS and words (FAULT at the 51st)");
        String fifty = "moves 1" + "+1".repeat(49);
        fine(fifty);
        fault(fifty + "+1", fifty.length() + 1);
        fault(fifty + "+good", fifty.length() + 1);
        fault(fifty + "+[[1]]", fifty.length() + 3);
        fault(fifty + "+", fifty.length() + 1);
        fault(fifty + "+1001", fifty.length() + 1);
        fault(fifty + " if 1=1", fifty.length() + 4);
        fault(fifty + " if (([good", fifty.length() + 7);
        fine(fifty + ";bars");
        fault(fifty + ";bars if 1=1", fifty.length() + 9);
        String words = "moves good" + "+good".repeat(49);
        fine(words);
        fault(words + "+good", words.length() + 1);
        String both = "counts [1]" + "+[now]".repeat(24) + ";bars if 1=2" + " or 1=2".repeat(11) + ";moves 1";
        fine(both);
        fault(both + ";moves 1", both.length() + 7);
        GladBasket b = new GladBasket();
        for (int law = 0; law < 6; law++) {
            edge.is("fifty in each TEXT: " + law, Due.law(b, fifty), law);
            edge.is("and fifty of ORDERS", Due.orders(b, "pass if 1=1" + " and 1=1".repeat(24)), 1);
            edge.is("not fifty-two of ORDERS", Due.orders(b, "pass if 1=1" + " and 1=1".repeat(25)), -6);
            edge.is("its place", b.fault(), 208);
        }
    }

    private static void eightBrackets() {
        edge.says("8 brackets of both kinds within one another (FAULT at the 9th) at most");
        fine("moves " + "[".repeat(8) + "1" + "]".repeat(8));
        fault("moves " + "[".repeat(9) + "1" + "]".repeat(9), 14);
        fine("bars if " + "(".repeat(8) + "1=1" + ")".repeat(8));
        fault("bars if " + "(".repeat(9) + "1=1" + ")".repeat(9), 16);
        for (int tests = 0; tests <= 8; tests++) {
            int sums = 8 - tests;
            String open = "bars if " + "(".repeat(tests) + "1=" + "[".repeat(sums);
            fine(open + "1" + "]".repeat(sums) + ")".repeat(tests));
            fault(open + "[1]" + "]".repeat(sums) + ")".repeat(tests), open.length());
        }
        fine("bars if " + "(".repeat(7) + "(1=1) and (2=2)" + ")".repeat(7));
        fine("bars if " + "not (".repeat(8) + "1=1" + ")".repeat(8));
        fault("bars if " + "(".repeat(7) + "(1=1) and ((2=2))" + ")".repeat(7), 26);
        fine("moves [1]" + "+[1]".repeat(20));
        fine("moves " + "[".repeat(8) + "1" + "]".repeat(8) + "+" + "[".repeat(8) + "1" + "]".repeat(8) + ";moves "
                + "[".repeat(8) + "1" + "]".repeat(8));
        fault("moves 1+" + "[".repeat(8) + "1" + "]".repeat(7) + "+[" + "[".repeat(8), 32);
        GladBasket b = new GladBasket();
        edge.is("a FAULT within eight", Due.law(b, "moves " + "[".repeat(8)), -6);
        edge.is("eight in the next TEXT", Due.law(b, "moves " + "[".repeat(8) + "1" + "]".repeat(8)), 0);
    }

    private static void faultAtTheEnd() {
        edge.says("FAULT: the first TOKEN that can't go on there (the end's: the TEXT's length)");
        fault("moves 1+", 8);
        fault("moves 1+     ", 13);
        fault("bars if 1=1 and (", 17);
        fault("bars;  ", 7);
        fault("bars x y z", 5);
        fault("bars    x", 8);
        fault("bars if 1=1 bars x", 12);
        edge.promises(13, "-6 (blanks alone: FAULT at the end)");
        fault("", 0);
        fault(" ", 1);
        fault("     ", 5);
        fault(" ".repeat(400), 400);
    }

    // ---- What is BROKEN

    /** A GOOD 1 with a WEIGHT of 42, which it COUNTS if the SUM is BROKEN. */
    private static void counts(String sum, int want) {
        GladBasket b = new GladBasket();
        b.good(1, 1, 1, 1, 1);
        b.good(3, 11, 42, 5, 23);
        Due.enforce(b, "counts " + sum);
        edge.is("counts " + sum, b.asks(1, 1), want);
    }

    private static void holds(String test, boolean so) {
        GladBasket b = new GladBasket();
        b.good(1, 1, 1, 1, 1);
        Due.enforce(b, "bars if " + test);
        edge.is("bars if " + test, b.asks(0, 3), so ? 1 : 0);
    }

    private static void beyondABillion() {
        edge.says("Beyond 1,000,000,000 either way, or divided by 0 (/ cut towards 0, % what is left then), a SUM, a TEST "
                + "is BROKEN");
        int broken = 42;
        String billion = "1000*1000*1000";
        counts("1+" + billion + "%1000", 1);
        counts("[" + billion + "]/1000/1000/1000", 1);
        counts("[" + billion + "+1]%10", broken);
        counts("[" + billion + "-1]%10", 9);
        counts("[0-" + billion + "]/1000/1000/1000+5", 4);
        counts("[0-" + billion + "-1]/1000/1000/1000+5", broken);
        counts("[0-" + billion + "+1]%10+20", 11);
        counts("[" + billion + "]*[0-1]/1000/1000/1000+5", 4);
        counts("[" + billion + "]*2/1000", broken);
        counts("[" + billion + "]*[" + billion + "]*0", broken);
        counts("[" + billion + "+1]*0", broken);
        counts("[" + billion + "+1-1]*0", broken);
        counts("[" + billion + "-1+1]*0", 0);
        counts("0*" + billion + "*1000", 0);
        holds(billion + "=" + billion, true);
        holds(billion + "+1>" + billion, false);
        holds("not " + billion + "+1<1", false);
        holds("0-" + billion + "<0", true);
        holds("0-" + billion + "-1<0", false);
        holds("1=1 and 0<" + billion + "+1", false);
    }

    private static void dividedByNothing() {
        edge.says("or divided by 0");
        counts("1/0", 42);
        counts("1%0", 42);
        counts("0/0", 42);
        counts("0%0", 42);
        counts("5/[good-1]", 42);
        counts("5/good", 5);
        counts("7+0*[1/0]", 42);
        counts("0/5", 0);
        counts("0%5", 0);
        holds("1/0=1", false);
        holds("not 1/0=1", false);
        holds("1/0=1/0", false);
        holds("1%0<1", false);
    }

    private static void cutTowardsNothing() {
        edge.says("(/ cut towards 0, % what is left then)");
        counts("50+7/2", 53);
        counts("50+[0-7]/2", 47);
        counts("50+7/[0-2]", 47);
        counts("50+[0-7]/[0-2]", 53);
        counts("50+7%2", 51);
        counts("50+[0-7]%2", 49);
        counts("50+7%[0-2]", 51);
        counts("50+[0-7]%[0-2]", 49);
        counts("50+1/2", 50);
        counts("50+[0-1]/2", 50);
    }

    private static void onlyIfItMatters() {
        edge.says("(\"or\", \"and\" ask what stands behind only if it can still matter)");
        holds("1=1 or 1/0=1", true);
        holds("1=2 or 1/0=1", false);
        holds("not (1=2 or 1/0=1)", false);
        holds("1=2 and 1/0=1", false);
        holds("not (1=2 and 1/0=1)", true);
        holds("1=1 and 1/0=1", false);
        holds("not (1=1 and 1/0=1)", false);
        holds("1/0=1 or 1=1", false);
        holds("not (1/0=1 and 1=2)", false);
        holds("1=2 and 1/0=1 or 1=1", true);
        holds("1=2 or 1=1 or 1/0=1", true);
        holds("1=1 and 1=2 and 1/0=1 or 2=2", true);
        holds("not (1=1 or 1/0=1) or 2=2", true);
        holds("(1=1 or 1/0=1) and (2=3 or 3=3)", true);
        holds("1=1 or (1/0=1 and 1/0=1) or 1/0=1", true);
        holds("not (2<1 and 1/0=1)", true);
        holds("not (1>2 and 1/0=1)", true);
        holds("1<2 or 1/0=1", true);
        holds("2>1 or 1/0=1", true);
    }

    // ---- What LAWS tell

    private static void sixLaws() {
        edge.says("LAWS, 6 at most");
        GladBasket b = new GladBasket();
        for (int law = 0; law < 6; law++) {
            edge.is("LAW " + law, Due.law(b, "bars"), law);
            edge.is("status()", b.status(), 0);
            edge.is("count(4)", b.count(4), law + 1);
        }
        edge.is("a seventh", Due.law(b, "bars"), -5);
        edge.is("count(4)", b.count(4), 6);
    }

    private static void noneInForce() {
        edge.says("one is in FORCE (NONE at first: no CLAUSE)");
        GladBasket b = new GladBasket();
        b.good(2, 3, 4, 5, 6);
        Due.law(b, "moves 7;counts 7;glads 7;bars");
        edge.is("count(12)", b.count(12), NONE);
        int[] without = {0, 4, 5, 0};
        for (int what = 0; what < 4; what++) {
            edge.is("asks(0, " + what + ")", b.asks(0, what), without[what]);
        }
        b.pass();
        edge.is("NOW stays", b.of(0, 1), 3);
    }

    private static void clauses() {
        edge.says("CLAUSE: ((\"moves\" | \"counts\" | \"glads\") SUM | \"bars\") [\"if\" TEST]");
        fine("moves 1");
        fine("counts 1");
        fine("glads 1");
        fine("bars");
        fine("moves 1 if 1=1;counts 1 if 1=1;glads 1 if 1=1;bars if 1=1");
        fault("counts", 6);
        fault("glads", 5);
        fault("bars 1", 5);
        fault("bars 1 if 1=1", 5);
        fault("if 1=1", 0);
        fault("1", 0);
        fault("moves 1 1=1", 8);
        fault("moves 1 if 1=1 if 1=1", 15);
        fault("moves 1 by 2", 8);
        fault("moves 1 times 2", 8);
        fault("lack 1", 0);
        fault("pass", 0);
        fault("bar", 0);
        fault("barss", 0);
        fault("good", 0);
    }

    private static void words() {
        edge.says("Words: \"good\" | \"base\" | \"now\" | \"weight\" | \"glad\" | \"lacks\" | \"place\" | \"month\" | "
                + "\"mood\"");
        for (String word : "good base now weight glad lacks place month mood".split(" ")) {
            fine("moves " + word);
            fault("moves " + word + "s", 6);
            fault("moves " + word.substring(1), 6);
            fault("moves " + word + " 0", 7 + word.length());
            fault(word, 0);
        }
        edge.says("(lacks: 1, if it is LACKING, else 0; glad: GLAD as told; base, now: its own, if it LACKS, too)");
        GladBasket b = new GladBasket();
        b.good(1, 2, 3, 4, 5);
        b.good(3, 11, 42, 5, 23);
        b.terms(0, 77);
        b.terms(2, 8);
        b.stand(1, 0);
        String[] words = {"good", "base", "now", "weight", "glad", "lacks", "place", "month", "mood"};
        int[] want = {1, 3, 11, 42, 5, 0, 23, 77, 8};
        for (int lacking = 0; lacking < 2; lacking++) {
            b.image(0);
            for (int i = 0; i < words.length; i++) {
                Due.enforce(b, "glads 9;counts " + words[i]);
                edge.is(words[i] + (lacking == 1 ? " of one that LACKS" : ""), b.asks(1, 1), want[i]);
                b.back(0);
            }
            b.lack(1);
            want[5] = 1;
        }
    }

    private static void askedOfAGood() {
        edge.says("All are asked of a GOOD.");
        GladBasket b = new GladBasket();
        for (int good = 0; good < 8; good++) {
            b.good(good + 1, 12 - good, 10 * good, good, 3 * good);
        }
        b.lack(7);
        b.stand(7, 0);
        Due.enforce(b, "moves good-4;counts weight+base+place;glads now%10;bars if lacks=1 or glad=3");
        for (int good = 0; good < 8; good++) {
            edge.is("asks(" + good + ", 0)", b.asks(good, 0), good - 4);
            edge.is("asks(" + good + ", 1)", b.asks(good, 1), Math.min(99, 10 * good + good + 1 + 3 * good));
            edge.is("asks(" + good + ", 2)", b.asks(good, 2), (12 - good) % 10);
            edge.is("asks(" + good + ", 3)", b.asks(good, 3), good == 3 || good == 7 ? 1 : 0);
        }
    }

    private static void holds() {
        edge.says("A CLAUSE HOLDS, if its \"if\" (if it has one) is so, and neither that nor its SUM is BROKEN.");
        counts("7", 7);
        counts("7 if 1=1", 7);
        counts("7 if 1=2", 42);
        counts("7 if 1/0=1", 42);
        counts("7 if not 1/0=1", 42);
        counts("1/0 if 1=1", 42);
        counts("1/0 if 1=2", 42);
        counts("5;counts 7 if 1=2", 5);
        counts("5;counts 7 if 1/0=1", 5);
        counts("5;counts 1/0", 5);
        counts("5;counts 1/0;counts 6", 6);
        counts("1/0;counts 6 if 1=2;counts 1%0", 42);
    }

    private static void asked(String law, int what, int want) {
        GladBasket b = new GladBasket();
        b.good(3, 6, 42, 5, 23);
        Due.enforce(b, law);
        edge.is(law, b.asks(0, what), want);
    }

    private static void moves() {
        edge.says("NOW MOVES in a MONTH by what the last \"moves\" that HOLDS tells, -9 .. 9 (else the nearest), 0 without");
        asked("moves 9", 0, 9);
        asked("moves 10", 0, 9);
        asked("moves 1000*1000*1000", 0, 9);
        asked("moves 0-9", 0, -9);
        asked("moves 0-10", 0, -9);
        asked("moves 0-1000*1000*1000", 0, -9);
        asked("moves 1000*1000*1000+1", 0, 0);
        asked("moves 0", 0, 0);
        asked("bars", 0, 0);
        asked("moves 3;moves 4;moves 5 if 1=2", 0, 4);
        asked("moves 3;counts 4;glads 5", 0, 3);
        asked("counts 4;glads 5", 0, 0);
    }

    private static void counts() {
        edge.says("a GOOD COUNTS 0 .. 99, WEIGHT without");
        asked("counts 0", 1, 0);
        asked("counts 0-1", 1, 0);
        asked("counts 0-1000", 1, 0);
        asked("counts 99", 1, 99);
        asked("counts 100", 1, 99);
        asked("counts 1000*1000", 1, 99);
        asked("bars", 1, 42);
        asked("counts 7;counts 8;counts 1/0", 1, 8);
    }

    private static void glads() {
        edge.says("it makes GLAD by 0 .. 9, GLAD without");
        asked("glads 0", 2, 0);
        asked("glads 0-1", 2, 0);
        asked("glads 9", 2, 9);
        asked("glads 10", 2, 9);
        asked("glads 1000*1000", 2, 9);
        asked("counts 3", 2, 5);
        asked("glads 7;glads 8;glads 1/0", 2, 8);
    }

    private static void bars() {
        edge.says("it is BARRED from being had, if \"bars\" HOLDS");
        asked("counts 3", 3, 0);
        asked("bars", 3, 1);
        asked("bars if 1=1", 3, 1);
        asked("bars if 1=2", 3, 0);
        asked("bars if 1/0=1", 3, 0);
        asked("bars;bars if 1=2", 3, 1);
        asked("bars if 1=2;bars", 3, 1);
    }

    // ---- Promises 13, 15, 17

    private static int lawOf(GladBasket b, String text) {
        b.end(0);
        return Due.law(b, text);
    }

    private static void lawRefused() {
        edge.promises(13, "The TAPE, which is empty then, becomes a LAW: its number.");
        GladBasket b = Edge.made(Edge.MIDDLE);
        edge.granted("law()", b, x -> lawOf(x, "bars"), 2);
        edge.is("count(6)", b.count(6), 0);
        edge.is("none is put in FORCE by it", b.count(12), 0);
        edge.promises(13, "-5 (ahead of reading it; the TAPE is empty then, too)");
        for (String text : new String[] {"bars", "x", "", "   ", "bars;"}) {
            edge.refusedBut("a seventh: '" + text + "'", Edge.FULL, -5, x -> lawOf(x, text), x -> x.end(0));
        }
        edge.refusedBut("a seventh, a FAULT being told", x -> {
            Edge.FULL.set(x);
            lawOf(x, "bars");
            x.back(0);
            Due.orders(x, "pass x");
        }, -5, x -> lawOf(x, "bars 1"), x -> x.end(0));
        edge.promises(13, "-6 (blanks alone: FAULT at the end)");
        for (Edge.Scene scene : new Edge.Scene[] {Edge.EMPTY, Edge.MIDDLE}) {
            for (String text : new String[] {"x", "", "   ", "bars;", "moves 1001", "lack 1"}) {
                edge.refusedBut("law() of '" + text + "'", scene, -6, x -> lawOf(x, text), x -> x.end(0), "fault()");
            }
        }
    }

    private static void fault() {
        edge.promises(15, "FAULT of the latest law(), orders() that read a TEXT: its place; NONE without.");
        GladBasket b = new GladBasket();
        edge.is("ahead of any", b.fault(), NONE);
        Due.law(b, "bars 1");
        edge.is("of law()", b.fault(), 5);
        Due.orders(b, "pass  x");
        edge.is("of orders()", b.fault(), 6);
        Due.orders(b, "lack 9");
        edge.is("of ORDERS that can't be: they were read", b.fault(), NONE);
        b.law();
        edge.is("of an empty TAPE", b.fault(), 0);
        b.row();
        b.feed(0, 0, 0, 0, 0);
        b.row();
        edge.is("a row() reads no TEXT", b.fault(), 0);
        for (int law = 0; law < 6; law++) {
            Due.law(b, "bars");
        }
        edge.is("of a LAW", b.fault(), NONE);
        Due.orders(b, "x");
        edge.is("of orders()", b.fault(), 0);
        Due.law(b, "bars");
        edge.is("law() for which there is no room reads none", b.fault(), 0);
        edge.leavesAll("fault()", Edge.MIDDLE, 5, x -> x.fault());
    }

    private static void force() {
        edge.promises(17, "A LAW is in FORCE (NONE: none): which was. -2.");
        for (int law : new int[] {6, -2, MIN, MAX}) {
            edge.refusedEverywhere("force(" + law + ")", -2, x -> x.force(law));
        }
        edge.refused("one LAW beyond", Edge.MIDDLE, -2, x -> x.force(2));
        edge.refused("no LAW", Edge.EMPTY, -2, x -> x.force(0));
        GladBasket b = Edge.made(Edge.MIDDLE);
        edge.granted("the last LAW", b, x -> x.force(1), 0);
        edge.is("count(12)", b.count(12), 1);
        edge.granted("the same", b, x -> x.force(1), 1);
        edge.granted("none", b, x -> x.force(NONE), 1);
        edge.is("count(12)", b.count(12), NONE);
        edge.granted("none, where there is none: the answer is NONE, it is not REFUSED", b, x -> x.force(NONE), NONE);
        edge.granted("the first", b, x -> x.force(0), NONE);
        edge.granted("none in an empty basket", new GladBasket(), x -> x.force(NONE), NONE);
    }
}
