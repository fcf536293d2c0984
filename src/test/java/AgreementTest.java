import java.lang.reflect.InvocationTargetException;
import java.lang.reflect.Method;
import java.util.ArrayList;
import java.util.Arrays;
import java.util.Comparator;
import java.util.HashMap;
import java.util.List;
import java.util.Map;
import java.util.Random;

/**
 * All promises: long runs of calls by draws, on the class and on PlainBasket, whose answers must agree. A run has as
 * many calls as the document promises answers for.
 */
public final class AgreementTest {
    private static final int PROMISED = 512;
    // What is looked at in the end: 16 counts, and 7 of each of 8 GOODS.
    private static final int IN_THE_END = 16 + 7 * 8;
    private static final int[] NASTY = {-1, -2, 0, 1, 2, 7, 8, 9, 10, 12, 13, 24, 25, 99, 100, 400, 401, 999, 1000,
        1000000, 1000001, Integer.MAX_VALUE, Integer.MIN_VALUE, -100000, 255, 256};
    private static final Map<String, int[][]> RANGES = new HashMap<>();
    private static final List<String> NAMES = new ArrayList<>();
    private static final Map<String, Method> FACE = new HashMap<>();
    private static final Map<String, Method> PLAIN = new HashMap<>();

    private final Random random;
    private final GladBasket basket = new GladBasket();
    private final PlainBasket plain = new PlainBasket();
    private final StringBuilder story = new StringBuilder();
    private int calls = 0;
    private int most = PROMISED - IN_THE_END;
    private int wrong = 0;

    private AgreementTest(long seed) {
        random = new Random(seed);
    }

    public static void main(String[] args) throws Exception {
        prepare();
        int runs = args.length > 0 ? Integer.parseInt(args[0]) : 900;
        long calls = 0;
        int wrong = 0;
        for (int run = 0; run < runs; run++) {
            AgreementTest test = new AgreementTest(run);
            test.run();
            calls += test.calls;
            if (test.wrong > 0) {
                wrong++;
                System.out.println("run " + run + ":\n" + test.story);
                break;
            }
        }
        System.out.println("AgreementTest: " + calls + " calls, " + wrong + " runs do not agree");
        if (wrong > 0) {
            System.exit(1);
        }
    }

    /** How often a call is drawn, and from where its numbers come. */
    private static void call(int often, String name, int[]... ranges) {
        for (int i = 0; i < often; i++) {
            NAMES.add(name);
        }
        RANGES.put(name, ranges);
    }

    private static int[] in(int low, int high) {
        return new int[] {low, high};
    }

    private static void prepare() {
        call(6, "good", in(1, 12), in(1, 12), in(0, 20), in(0, 9), in(0, 24));
        call(3, "of", in(0, 7), in(0, 6));
        call(6, "asks", in(0, 7), in(0, 3));
        call(4, "stand", in(0, 7), in(-1, 7));
        call(2, "person");
        call(4, "own", in(0, 4), in(0, 7), in(0, 9));
        call(2, "terms", in(0, 2), in(0, 9));
        call(1, "feed", in(0, 1 << 30), in(0, 1 << 30), in(0, 1 << 30), in(0, 1 << 30), in(0, 1 << 30));
        call(1, "end", in(0, 400));
        call(1, "row");
        call(1, "commas");
        call(1, "law");
        call(1, "orders");
        call(1, "fault");
        call(1, "stopped");
        call(6, "force", in(-1, 5));
        call(8, "lack", in(0, 7));
        call(6, "find", in(0, 7));
        call(6, "weigh", in(0, 7), in(0, 99));
        call(8, "pass");
        call(6, "undo");
        call(5, "figure", in(0, 3), in(0, 1));
        call(5, "turned", in(0, 3), in(0, 1));
        call(2, "pension");
        call(6, "glad", in(0, 99), in(0, 8));
        call(2, "round", in(0, 24), in(-1, 7));
        call(4, "spent", in(0, 20), in(0, 20), in(-1, 3));
        call(4, "ask", in(0, 30), in(0, 30), in(0, 1));
        call(4, "fair", in(0, 7), in(0, 1));
        call(4, "hear", in(0, 999));
        call(1, "forget");
        call(4, "trend", in(0, 3));
        call(4, "does", in(0, 7));
        call(4, "compare", in(-1, 5));
        call(4, "gets", in(0, 7), in(0, 60));
        call(2, "years", in(0, 1000000), in(1, 60));
        call(4, "drawn", in(0, 7), in(0, 1));
        call(3, "image", in(0, 1));
        call(2, "back", in(0, 1));
        call(6, "count", in(0, 15));
        call(3, "status");
        for (Method m : GladBasket.class.getDeclaredMethods()) {
            FACE.put(m.getName() + m.getParameterCount(), m);
        }
        for (Method m : PlainBasket.class.getDeclaredMethods()) {
            m.setAccessible(true);
            PLAIN.put(m.getName() + m.getParameterCount(), m);
        }
        NAMES.sort(Comparator.naturalOrder());
    }

    private void run() throws Exception {
        int goods = random.nextInt(9);
        for (int i = 0; i < goods; i++) {
            drawCall("good");
        }
        for (int i = 0; i < 3; i++) {
            type(text(false));
            same("law");
            same("person");
        }
        same("force", random.nextInt(3));
        while (calls < most && wrong == 0) {
            int way = random.nextInt(20);
            if (way == 0) {
                type(text(false));
                same("law");
                same("fault");
            } else if (way <= 2) {
                type(text(true));
                same("orders");
                same("fault");
                same("stopped");
            } else if (way == 3 && random.nextInt(4) == 0) {
                type(row());
                same("row");
                same("commas");
            } else if (way == 4) {
                sets();
            } else if (way == 5 && random.nextInt(8) == 0) {
                changes();
            } else {
                drawCall(NAMES.get(random.nextInt(NAMES.size())));
            }
        }
        most = PROMISED;
        for (int what = 0; what < 16; what++) {
            same("count", what);
        }
        for (int good = 0; good < 8; good++) {
            for (int what = 0; what < 7; what++) {
                same("of", good, what);
            }
        }
    }

    /** Sets that are there: by what one of them costs and how GLAD it makes. */
    private void sets() throws Exception {
        int set = random.nextInt(256);
        int cost = 0;
        int glad = 0;
        for (int good = 0; good < plain.count(0); good++) {
            if ((set >> good & 1) == 1 && plain.of(good, 5) == 0) {
                cost += plain.of(good, 1);
                glad += plain.asks(good, 2);
            }
        }
        same("spent", cost, glad, -1);
        same("spent", cost, glad, 0);
        same("spent", cost, glad, 1);
        same("ask", cost, glad, 0);
        same("ask", cost, glad, 1);
    }

    /** More changes than are kept, and all of them undone that can be. */
    private void changes() throws Exception {
        String[] kinds = {"lack", "find", "weigh", "weigh", "pass"};
        int often = random.nextInt(40);
        for (int i = 0; i < often; i++) {
            drawCall(kinds[random.nextInt(5)]);
        }
        for (int i = random.nextInt(18); i >= 0; i--) {
            same("undo");
            same("count", 5);
            drawCall("of");
        }
    }

    private void drawCall(String name) throws Exception {
        int[][] ranges = RANGES.get(name);
        int[] numbers = new int[ranges.length];
        for (int i = 0; i < numbers.length; i++) {
            numbers[i] = random.nextInt(40) == 0 ? NASTY[random.nextInt(NASTY.length)]
                    : ranges[i][0] + random.nextInt(ranges[i][1] - ranges[i][0] + 1);
        }
        same(name, numbers);
    }

    private void same(String name, int... numbers) throws Exception {
        if (calls >= most) {
            return;
        }
        calls++;
        Object[] boxed = Arrays.stream(numbers).boxed().toArray();
        long got;
        try {
            got = ((Number) FACE.get(name + numbers.length).invoke(basket, boxed)).longValue();
        } catch (InvocationTargetException e) {
            story.append(name).append(Arrays.toString(numbers)).append(" threw ").append(e.getCause()).append('\n');
            wrong++;
            return;
        }
        long want = ((Number) PLAIN.get(name + numbers.length).invoke(plain, boxed)).longValue();
        story.append(name).append(Arrays.toString(numbers)).append(": ").append(got);
        if (got != want) {
            wrong++;
            story.append(", due is ").append(want);
        }
        story.append('\n');
    }

    private void type(String text) throws Exception {
        same("end", 0);
        String padded = text + " ".repeat((20 - text.length() % 20) % 20);
        for (int at = 0; at < padded.length(); at += 20) {
            int[] numbers = new int[5];
            for (int i = 0; i < 20; i++) {
                numbers[i / 4] |= (padded.charAt(at + i) & 255) << 24 - i % 4 * 8;
            }
            same("feed", numbers);
        }
        same("end", text.length());
        story.append("  ").append(text).append('\n');
    }

    private String row() {
        StringBuilder s = new StringBuilder();
        int length = 1 + random.nextInt(14);
        for (int i = 0; i < length; i++) {
            s.append((char) (random.nextInt(10) == 0 ? random.nextInt(256) : 1 + random.nextInt(9)));
        }
        return s.toString();
    }

    // ---- Texts by draws: most are right, some have a byte or a word too many or too few.

    private String text(boolean orders) {
        StringBuilder s = new StringBuilder();
        int clauses = 1 + random.nextInt(random.nextInt(8) == 0 ? 14 : 5);
        for (int i = 0; i < clauses; i++) {
            s.append(i == 0 ? "" : ";").append(clause(orders));
        }
        if (s.length() > 400) {
            s.setLength(400);
        }
        if (random.nextInt(5) == 0) {
            spoil(s);
        }
        return s.toString();
    }

    private void spoil(StringBuilder s) {
        int at = random.nextInt(s.length());
        switch (random.nextInt(4)) {
            case 0:
                s.deleteCharAt(at);
                break;
            case 1:
                s.setCharAt(at, (char) random.nextInt(256));
                break;
            case 2:
                if (s.length() < 400) {
                    s.insert(at, "[]()+-*/%<>=; if".charAt(random.nextInt(16)));
                }
                break;
            default:
                s.setLength(at);
                break;
        }
    }

    private String pick(String... all) {
        return all[random.nextInt(all.length)];
    }

    private String gap() {
        return random.nextInt(4) == 0 ? " ".repeat(random.nextInt(3)) : "";
    }

    private String clause(boolean orders) {
        String s;
        if (orders) {
            s = pick("lack " + target(), "find " + target(), "weigh " + target() + " by " + sum(true, 2), "pass");
            if (random.nextInt(4) == 0) {
                s += " times " + random.nextInt(random.nextInt(9) == 0 ? 23 : 6);
            }
        } else {
            s = pick("moves " + sum(false, 3), "counts " + sum(false, 3), "glads " + sum(false, 3), "bars");
        }
        return random.nextInt(3) > 0 ? s + " if " + test(orders, 3) : s;
    }

    private String target() {
        return random.nextInt(3) == 0 ? sum(true, 1) : String.valueOf(random.nextInt(5));
    }

    private String sum(boolean orders, int depth) {
        StringBuilder s = new StringBuilder(term(orders, depth));
        while (random.nextInt(3) == 0) {
            s.append(gap()).append(pick("+", "-")).append(gap()).append(term(orders, depth));
        }
        return s.toString();
    }

    private String term(boolean orders, int depth) {
        StringBuilder s = new StringBuilder(part(orders, depth));
        while (random.nextInt(4) == 0) {
            s.append(gap()).append(pick("*", "/", "%")).append(gap()).append(part(orders, depth));
        }
        return s.toString();
    }

    private String part(boolean orders, int depth) {
        if (depth > 0 && random.nextInt(5) == 0) {
            return "[" + gap() + sum(orders, depth - 1) + gap() + "]";
        }
        if (random.nextBoolean()) {
            return String.valueOf(random.nextInt(random.nextInt(8) == 0 ? 1003 : 10));
        }
        if (!orders) {
            return pick("good", "base", "now", "weight", "glad", "lacks", "place", "month", "mood");
        }
        return pick("month", "done", "latest", "figure", "lacking", "now " + random.nextInt(random.nextInt(20) == 0
                ? 10 : 8), "weight " + random.nextInt(8));
    }

    private String test(boolean orders, int depth) {
        StringBuilder s = new StringBuilder(plainTest(orders, depth));
        while (random.nextInt(3) == 0) {
            s.append(pick(" or ", " and ")).append(plainTest(orders, depth));
        }
        return s.toString();
    }

    private String plainTest(boolean orders, int depth) {
        if (random.nextInt(5) == 0) {
            return "not " + plainTest(orders, depth);
        }
        if (depth > 0 && random.nextInt(5) == 0) {
            return "(" + gap() + test(orders, depth - 1) + gap() + ")";
        }
        return sum(orders, 1) + gap() + pick("<", ">", "=") + gap() + sum(orders, 1);
    }
}
