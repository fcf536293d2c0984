import java.io.IOException;

/** Edges of YEARS (Terms IV), and of promises 37 and 38. */
public final class EdgesYearsTest {
    private static final int NONE = GladBasket.NONE;
    private static final int MIN = Edge.MIN;
    private static final int MAX = Edge.MAX;
    private static final int TOP_SEED = 1000000;
    private static Edge edge;

    public static void main(String[] args) throws IOException {
        edge = new Edge("EdgesYearsTest");
        seeds();
        months();
        draws();
        whatDrawsBring();
        thenTheMonthPasses();
        endsAt999();
        onPaper();
        years();
        drawn();
        edge.finish();
    }

    private static int next(int s) {
        return (int) ((s * 1103L + 12345) % 1000003);
    }

    /** The GOOD of the first DRAW, of so many, and what the second brings. */
    private static int[] firstDraws(int seed, int goods) {
        int s = next(seed);
        return new int[] {s % goods, next(s) % 4};
    }

    private static GladBasket basket(int now, int goods) {
        GladBasket b = new GladBasket();
        for (int good = 0; good < goods; good++) {
            b.good(1, now, 1, 0, 0);
        }
        return b;
    }

    private static void seeds() {
        edge.says("s is the SEED (0 .. 1,000,000)");
        for (int seed : new int[] {-1, TOP_SEED + 1, MIN, MAX}) {
            edge.refusedEverywhere("years(" + seed + ", 1)", -1, x -> x.years(seed, 1));
            edge.refusedEverywhere("years(" + seed + ", 61)", -1, x -> x.years(seed, 61));
        }
        for (int seed : new int[] {0, 1, TOP_SEED - 1, TOP_SEED}) {
            GladBasket b = basket(5, 1);
            int bring = firstDraws(seed, 1)[1];
            edge.granted("years(" + seed + ", 1)", b, x -> x.years(seed, 1),
                    bring == 0 ? 100 : bring == 1 ? 500 : bring == 2 ? 600 : 400);
        }
    }

    private static void months() {
        edge.says("YEARS with a SEED, n months 1 .. 60, on paper");
        for (int n : new int[] {0, -1, 61, MIN, MAX}) {
            edge.refusedEverywhere("years(0, " + n + ")", -1, x -> x.years(0, n));
        }
        for (int n : new int[] {1, 2, 59, 60}) {
            GladBasket b = basket(5, 3);
            Due.enforce(b, "counts month;moves 0");
            edge.holds("years(0, " + n + ") is not REFUSED", b.years(0, n) > 0 && b.status() == 0);
        }
        // The MONTH tells how many have passed: only in the last of them the price is 12.
        for (int n : new int[] {1, 2, 59, 60}) {
            GladBasket b = basket(1, 1);
            Due.enforce(b, "moves 0-9;moves 9 if month=" + (n - 1) + ";moves 3 if month=" + n);
            b.years(0, n);
            edge.holds("all of " + n + " months", b.drawn(0, 0) >= 9);
            b.years(0, Math.max(1, n - 1));
            edge.holds("not the one behind them", n == 1 || b.drawn(0, 0) <= 1);
        }
    }

    private static void draws() {
        edge.says("a DRAW of m: s becomes (s times 1103 and 12345) modulo 1,000,003, it is s modulo m");
        edge.says("Each month (at MONTH 999 it ends) DRAWS of GOODS, of 4");
        for (int goods = 1; goods <= 8; goods++) {
            for (int seed = 0; seed <= TOP_SEED; seed += 9901) {
                GladBasket b = basket(5, goods);
                int[] want = firstDraws(seed, goods);
                b.years(seed, 1);
                for (int good = 0; good < goods; good++) {
                    int now = good != want[0] ? 5 : want[1] == 2 ? 6 : want[1] == 3 ? 4 : 5;
                    edge.is("NOW of " + good + " by " + seed, b.drawn(good, 0), now);
                    edge.is("LACKING of " + good + " by " + seed, b.drawn(good, 1),
                            good == want[0] && want[1] == 0 ? 1 : 0);
                }
            }
        }
    }

    private static int seedThatBrings(int bring) {
        int seed = 0;
        while (firstDraws(seed, 1)[1] != bring) {
            seed++;
        }
        return seed;
    }

    private static void whatDrawsBring() {
        edge.says("at 0 that GOOD LACKS, at 1 it is found, at 2 NOW is one more (12 at most), at 3 one less (1 at least)");
        for (int bring = 0; bring < 4; bring++) {
            int seed = seedThatBrings(bring);
            for (int now : new int[] {1, 2, 11, 12}) {
                for (int lacks = 0; lacks < 2; lacks++) {
                    GladBasket b = basket(now, 1);
                    if (lacks == 1) {
                        b.lack(0);
                    }
                    b.years(seed, 1);
                    int want = bring == 2 ? Math.min(12, now + 1) : bring == 3 ? Math.max(1, now - 1) : now;
                    edge.is("NOW " + now + " at " + bring, b.drawn(0, 0), want);
                    edge.is("LACKING " + lacks + " at " + bring, b.drawn(0, 1), bring == 0 ? 1 : bring == 1 ? 0 : lacks);
                }
            }
        }
    }

    private static void thenTheMonthPasses() {
        edge.says("then the MONTH passes");
        int more = seedThatBrings(2);
        int less = seedThatBrings(3);
        GladBasket b = basket(12, 1);
        Due.enforce(b, "moves 0-2");
        b.years(more, 1);
        edge.is("12 at most, then two less", b.drawn(0, 0), 10);
        b.years(less, 1);
        edge.is("one less, then two less", b.drawn(0, 0), 9);
        b = basket(1, 1);
        Due.enforce(b, "moves 2 if now>1;moves 5 if now=1");
        b.years(less, 1);
        edge.is("1 at least, then by what it is then", b.drawn(0, 0), 6);
        b.years(more, 1);
        edge.is("one more, then by what it is then", b.drawn(0, 0), 4);
        b = basket(5, 1);
        Due.enforce(b, "moves 1 if month=0;moves 3 if month=1;moves lacks*2-1 if lacks=1");
        b.years(seedThatBrings(0), 1);
        edge.is("it LACKS, when the MONTH passes", b.drawn(0, 0), 6);
    }

    private static void endsAt999() {
        edge.says("(at MONTH 999 it ends)");
        for (int month : new int[] {996, 997, 998}) {
            int left = 999 - month;
            for (int n : new int[] {left, left + 1, 60}) {
                GladBasket b = basket(1, 1);
                Due.enforce(b, "moves 3");
                b.terms(0, month);
                GladBasket early = basket(1, 1);
                Due.enforce(early, "moves 3");
                edge.is("years of " + n + " at " + month, b.years(4, n), early.years(4, left));
                edge.is("NOW", b.drawn(0, 0), early.drawn(0, 0));
                edge.is("LACKING", b.drawn(0, 1), early.drawn(0, 1));
            }
        }
        GladBasket b = basket(5, 1);
        b.terms(0, 999);
        edge.granted("at MONTH 999: there is no month", b, x -> x.years(0, 60), 0);
        edge.is("NOW as it is", b.drawn(0, 0), 5);
        edge.is("LACKING as it is", b.drawn(0, 1), 0);
    }

    private static void onPaper() {
        edge.says("on paper: s is the SEED");
        for (Edge.Scene scene : new Edge.Scene[] {Edge.MIDDLE, Edge.FULL}) {
            edge.alike("years()", x -> {
                scene.set(x);
                x.years(1, 1);
            }, x -> x.years(77, 60), x -> 0, Edge.allLooks(), drawnLabels());
        }
    }

    private static String[] drawnLabels() {
        String[] labels = new String[16];
        for (int i = 0; i < 16; i++) {
            labels[i] = "drawn(" + i / 2 + ", " + i % 2 + ")";
        }
        return labels;
    }

    private static void years() {
        edge.promises(37, "YEARS, kept as the latest: the greatest PENSION behind a month of these. -1; -3 there are no "
                + "GOODS.");
        edge.refused("no GOODS", Edge.EMPTY, -3, x -> x.years(0, 1));
        edge.refused("no GOODS", Edge.EMPTY, -3, x -> x.years(TOP_SEED, 60));
        edge.refused("no GOODS, though there are PEOPLE and a LAW", x -> {
            x.person();
            Due.enforce(x, "moves 1");
        }, -3, x -> x.years(0, 1));
        edge.refused("no GOODS any more", x -> {
            x.image(0);
            x.good(1, 4, 1, 1, 1);
            x.years(9, 9);
            x.back(0);
        }, -3, x -> x.years(0, 1));
        GladBasket b = basket(9, 1);
        Due.enforce(b, "moves 0-1");
        int found = seedThatBrings(1);
        edge.is("not the one ahead of the months: 900", b.years(found, 1), 800);
        Due.enforce(b, "moves 0-9 if month>0");
        edge.is("the greatest, not the last", b.years(found, 2), 900);
        edge.is("the last", b.drawn(0, 0), 1);
        b = basket(9, 1);
        b.good(1, 4, 1, 0, 0);
        Due.enforce(b, "counts good;moves 1");
        int other = 0;
        while (firstDraws(other, 2)[0] != 0) {
            other++;
        }
        edge.is("what COUNTS by the LAW in FORCE", b.years(other, 1), 500);
        b = basket(9, 1);
        edge.is("all LACK without STAND-INS", b.years(seedThatBrings(0), 1), 100);
    }

    private static void drawn() {
        edge.promises(38, "Behind the latest YEARS NOW (what 0), LACKING (1: 1, 0) of a GOOD. NONE.");
        for (int good : new int[] {-1, 8, MIN, MAX}) {
            edge.leavesAll("drawn(" + good + ", 0)", NONE, x -> x.drawn(good, 0));
        }
        for (int what : new int[] {-1, 2, MIN, MAX}) {
            edge.leavesAll("drawn(0, " + what + ")", NONE, x -> x.drawn(0, what));
        }
        edge.leavesAll("no YEARS", Edge.EMPTY, NONE, x -> x.drawn(0, 0));
        GladBasket b = basket(5, 2);
        edge.is("ahead of any YEARS: NOW", b.drawn(0, 0), NONE);
        edge.is("ahead of any YEARS: LACKING", b.drawn(0, 1), NONE);
        b.years(-1, 1);
        edge.is("behind YEARS that were REFUSED", b.drawn(0, 0), NONE);
        b.years(seedThatBrings(1), 1);
        edge.is("the last GOOD: NOW", b.drawn(1, 0), 5);
        edge.is("the last GOOD: LACKING", b.drawn(1, 1), 0);
        edge.is("one GOOD beyond", b.drawn(2, 0), NONE);
        b.good(1, 7, 1, 1, 1);
        edge.is("a later GOOD was not in them", b.drawn(2, 0), NONE);
        b.years(0, 61);
        edge.is("behind YEARS that were REFUSED it is still of those ahead", b.drawn(2, 0), NONE);
        b.lack(0);
        edge.is("later changes are not in them", b.drawn(0, 1), 0);
        b.terms(0, 999);
        b.years(0, 1);
        edge.is("the latest YEARS: a later GOOD", b.drawn(2, 0), 7);
        edge.is("the latest YEARS: LACKING", b.drawn(0, 1), 1);
    }
}
