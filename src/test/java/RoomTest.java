import com.sun.management.ThreadMXBean;
import java.lang.management.ManagementFactory;
import java.util.function.ObjIntConsumer;

/** How much room the calls take: all of a run live in one, of some 600,000 objects and 7.3 million elements. */
public final class RoomTest {
    private static final ThreadMXBean THREADS = (ThreadMXBean) ManagementFactory.getThreadMXBean();
    // A dear law: as many PARTS and CLAUSES as can be.
    private static final String LAW = "moves now+1*2-3%4;counts weight*2+mood-[glad+1]*2;"
            + "glads glad+1 if now>3 and not base<2;bars if place=7 or place=9;counts 1+1 if good=1;"
            + "moves 1;moves 2 if month>3;moves 3 if month<9 or mood=3;"
            + "glads 4 if lacks=1;glads 3;counts [[weight]]+3 if good>2;moves 0-1 if good=3 and now>base";
    private static final String ORDERS = "weigh 0 by figure%90 times 20;weigh 1 by figure%80 times 20;pass times 20;"
            + "lack 2 if lacking=0;find 2 times 20 if lacking=1;pass times 20 if figure>0;weigh 2 by now 0+weight 1%9";
    // Of 512 calls that are promised, those that are left when a basket has been set.
    private static final int CALLS = 440;
    private static int wrong = 0;

    public static void main(String[] args) {
        // What is measured is warm: the first of all calls load classes.
        measureAll(false);
        measureAll(true);
        System.out.println("RoomTest: " + wrong + " wrong");
        if (wrong > 0) {
            System.exit(1);
        }
    }

    private static GladBasket basket() {
        GladBasket basket = new GladBasket();
        for (int good = 0; good < 8; good++) {
            basket.good(good + 1, 12 - good, 10 + good, good + 1, good * 3);
        }
        Due.enforce(basket, LAW);
        basket.image(0);
        basket.image(1);
        return basket;
    }

    private static void measureAll(boolean judged) {
        measure(judged, "figures", 5, 0, (b, i) -> {
            b.figure(i % 4, i % 2);
            b.turned(i % 4, i % 2);
            b.pension();
            b.does(i % 8);
            b.compare(0);
        });
        measure(judged, "glad", 1, 0, (b, i) -> b.glad(i % 100, i % 9));
        measure(judged, "round", 1, 0, (b, i) -> b.round(i % 25, i % 8 - 1));
        measure(judged, "spent and ask", 2, 0, (b, i) -> {
            b.spent(i % 50, i % 30, -1);
            b.ask(i % 50, i % 30, 0);
        });
        measure(judged, "years", 1, 0, (b, i) -> b.years(i, 60));
        measure(judged, "gets", 1, 0, (b, i) -> b.gets(i % 8, i % 61));
        measure(judged, "hear and trend", 2, 0, (b, i) -> {
            b.hear(i);
            b.trend(i % 4);
        });
        measure(judged, "changes", 5, 0, (b, i) -> {
            b.lack(i % 8);
            b.find(i % 7);
            b.weigh(i % 8, i % 100);
            b.pass();
            b.undo();
        });
        measure(judged, "images", 2, 0, (b, i) -> {
            b.image(i % 2);
            b.back(i % 2);
        });
        // The texts here are typed by the test itself, which makes some rows of its own.
        measure(judged, "orders", typing(ORDERS) + 2, 2000, (b, i) -> {
            Due.type(b, ORDERS);
            b.orders();
            b.back(0);
        });
        // The dearest of LAWS has some thousand elements.
        measure(judged, "law", typing(LAW) + 2, 8000, (b, i) -> {
            Due.type(b, LAW);
            b.law();
            b.back(0);
        });
        measure(judged, "a new object", 1, 60000, (b, i) -> new GladBasket());
    }

    private static int typing(String text) {
        return (text.length() + 19) / 20 + 1;
    }

    /** So many calls each time, which may take so many bytes; all of them together a little. */
    private static void measure(boolean judged, String what, int calls, long bytes, ObjIntConsumer<GladBasket> each) {
        GladBasket basket = basket();
        int times = CALLS / calls;
        long before = THREADS.getThreadAllocatedBytes(Thread.currentThread().getId());
        for (int i = 0; i < times; i++) {
            each.accept(basket, i);
        }
        long taken = THREADS.getThreadAllocatedBytes(Thread.currentThread().getId()) - before;
        long most = times * bytes + (1 << 14);
        if (judged && taken > most) {
            wrong++;
            System.out.println(times + " times " + what + " took " + taken + " bytes, at most " + most + " are due");
        }
    }
}
