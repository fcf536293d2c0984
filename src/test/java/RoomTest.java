import com.sun.management.ThreadMXBean;
import java.lang.management.ManagementFactory;
import java.util.function.IntConsumer;

/** How much room the calls take: all of a run live in one, of some 600,000 objects and 7.3 million elements. */
public final class RoomTest {
    private static final ThreadMXBean THREADS = (ThreadMXBean) ManagementFactory.getThreadMXBean();
    // A dear law: as many PARTS and CLAUSES as can be.
    private static final String LAW = "moves now+1*2-3%4;counts weight*2+mood-[glad+1]*2;"
            + "glads glad+1 if now>3 and not base<2;bars if place=7 or place=9;counts 1+1 if good=1;"
            + "moves 1;moves 2 if month>3;moves 3 if month<9 or mood=3;"
            + "glads 4 if lacks=1;glads 3;counts [[weight]]+3 if good>2;moves 0-1 if good=3 and now>base";
    private static final String ORDERS = "weigh 0 by figure%90 times 20;weigh 1 by figure%80 times 20;pass times 20;"
            + "lack 2 if lacking=0;find 2 times 20 if lacking=1;pass times 20 if figure>0;weigh 2 by now 0+weight 1%9";
    private static int wrong = 0;
    private static final GladBasket basket = new GladBasket();

    public static void main(String[] args) {
        for (int good = 0; good < 8; good++) {
            basket.good(good + 1, 12 - good, 10 + good, good + 1, good * 3);
        }
        Due.enforce(basket, LAW);
        basket.image(0);
        basket.image(1);
        // What is measured is warm: the first of all calls load classes.
        measureAll(false);
        measureAll(true);
        System.out.println("RoomTest: " + wrong + " wrong");
        if (wrong > 0) {
            System.exit(1);
        }
    }

    private static void measureAll(boolean judged) {
        long little = 1 << 14;
        measure(judged, "figures", little, i -> {
            basket.figure(i % 4, i % 2);
            basket.turned(i % 4, i % 2);
            basket.pension();
            basket.does(i % 8);
            basket.compare(0);
        });
        measure(judged, "glad", little, i -> basket.glad(i % 100, i % 9));
        measure(judged, "round", little, i -> basket.round(i % 25, i % 8 - 1));
        measure(judged, "spent and ask", little, i -> {
            basket.spent(i % 50, i % 30, -1);
            basket.ask(i % 50, i % 30, 0);
        });
        measure(judged, "years", little, i -> basket.years(i, 60));
        measure(judged, "gets", little, i -> basket.gets(i % 8, i % 61));
        measure(judged, "hear and trend", little, i -> {
            basket.hear(i);
            basket.trend(i % 4);
        });
        measure(judged, "changes", little, i -> {
            basket.lack(i % 8);
            basket.find(i % 7);
            basket.weigh(i % 8, i % 100);
            basket.pass();
            basket.undo();
        });
        measure(judged, "images", little, i -> {
            basket.image(i % 2);
            basket.back(i % 2);
        });
        // The texts here are typed by the test itself, which makes some rows of its own.
        measure(judged, "orders", 512L * 2000, i -> {
            Due.type(basket, ORDERS);
            basket.orders();
            basket.back(0);
        });
        // 512 of the dearest LAWS: some thousand elements each.
        measure(judged, "law", 512L * 8000, i -> {
            Due.type(basket, LAW);
            basket.law();
            basket.back(0);
        });
        measure(judged, "a new object", 512L * 60000, i -> new GladBasket());
    }

    private static void measure(boolean judged, String what, long bytes, IntConsumer call) {
        long before = THREADS.getThreadAllocatedBytes(Thread.currentThread().getId());
        for (int i = 0; i < 512; i++) {
            call.accept(i);
        }
        long taken = THREADS.getThreadAllocatedBytes(Thread.currentThread().getId()) - before;
        if (judged && taken > bytes) {
            wrong++;
            System.out.println("512 times " + what + " took " + taken + " bytes, at most " + bytes + " are due");
        }
    }
}
