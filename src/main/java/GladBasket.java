import java.util.Arrays;

/**
 * A basket for happiness that is priced each month. The words in capitals are those of the document's Terms.
 *
 * All that is worked on is made with the object and used again; only a LAW that is kept is made by a call.
 */
public final class GladBasket {
    public static final int NONE = -1;
    public static final int NOTHING = -100000;

    // What a call is REFUSED by.
    private static final int WRONG_NUMBER = -1;
    private static final int NOT_THERE = -2;
    private static final int CANNOT_BE = -3;
    private static final int NO_ROOM = -5;
    private static final int WRONG_TEXT = -6;

    // How many there are at most.
    private static final int GOODS = 8;
    private static final int PEOPLE = 5;
    private static final int LAWS = 6;
    private static final int HEARD = 12;
    private static final int IMAGES = 2;
    private static final int KEPT = 16;
    private static final int BYTES = 400;
    private static final int CLAUSES = 12;
    private static final int PARTS = 50;
    private static final int BRACKETS = 8;

    private static final int TOP_PRICE = 12;
    private static final int TOP_WEIGHT = 99;
    private static final int TOP_GLAD = 9;
    private static final int TOP_PLACE = 24;
    private static final int TOP_OWN = 9;
    private static final int TOP_MONTH = 999;
    private static final int TOP_HEARD = 999;
    private static final int TOP_SOUGHT = 99;
    private static final int TOP_MONTHS = 60;
    private static final int TOP_SEED = 1000000;
    private static final int SIDE = 5;
    private static final long ALL_PARTS = 1000000000000L;

    // What is told of a GOOD, as of() numbers it.
    private static final int BASE = 0;
    private static final int NOW = 1;
    private static final int WEIGHT = 2;
    private static final int GLAD = 3;
    private static final int PLACE = 4;
    private static final int LACKING = 5;
    private static final int STAND_IN = 6;
    private static final int TRAITS = 7;

    // TERMS.
    private static final int MONTH = 0;
    private static final int RISES = 1;
    private static final int MOOD = 2;
    private static final int TERMS = 3;
    private static final int[] TOP_TERM = {TOP_MONTH, 10, 9};

    // CLAUSES of LAWS, as asks() numbers what they tell, and of ORDERS, as undo() numbers them.
    private static final String LAW_CLAUSES = "moves counts glads bars";
    private static final int MOVES = 0;
    private static final int COUNTS = 1;
    private static final int GLADS = 2;
    private static final int BARS = 3;
    private static final String ORDER_CLAUSES = "lack find weigh pass";
    private static final int LACK = 0;
    private static final int FIND = 1;
    private static final int WEIGH = 2;
    private static final int PASS = 3;
    private static final int TOP_TIMES = 20;

    // The pieces of a CLAUSE's code, as they follow one another.
    private static final int FIRST_SUM = 0;
    private static final int SECOND_SUM = 1;
    private static final int IF_TEST = 2;
    private static final int PIECES = 3;

    private static final String LAW_WORDS = "good base now weight glad lacks place month mood";
    private static final int LAW_WORD_COUNT = 9;
    private static final String ORDER_WORDS = "month done latest figure lacking now weight";
    private static final int WORD_MONTH = 0;
    private static final int WORD_DONE = 1;
    private static final int WORD_LATEST = 2;
    private static final int WORD_FIGURE = 3;
    private static final int WORD_LACKING = 4;
    // "now" and "weight" have a value for each GOOD.
    private static final int WORD_NOW = 5;
    private static final int WORD_WEIGHT = WORD_NOW + GOODS;
    private static final int ORDER_WORD_COUNT = WORD_WEIGHT + GOODS;

    private static final int TOP_NUMBER = 1000;
    private static final int TOP_SUM = 1000000000;
    private static final int BROKEN = Integer.MIN_VALUE;

    // What a text's code does; the signs of SUMS and of comparisons follow one another as in their texts.
    private static final int DO_NUMBER = 0;
    private static final int DO_WORD = 1;
    private static final int DO_NOT = 2;
    private static final int DO_OR = 3;
    private static final int DO_AND = 4;
    private static final String SUM_SIGNS = "+-";
    private static final int DO_PLUS = 5;
    private static final int DO_MINUS = 6;
    private static final String TERM_SIGNS = "*/%";
    private static final int DO_TIMES = 7;
    private static final int DO_DIVIDE = 8;
    private static final int DO_REST = 9;
    private static final String TEST_SIGNS = "<>=";
    private static final int DO_LESS = 10;
    private static final int DO_MORE = 11;
    private static final int DO_SAME = 12;

    private final Basket basket = new Basket();
    private final Basket before = new Basket();
    private final Basket drawnYears = new Basket();
    private final Basket[] images = {new Basket(), new Basket()};
    private final int[] imageKept = new int[IMAGES];
    private final History history = new History();
    private final History historyBefore = new History();
    private final Tape tape = new Tape();
    private final Reader reader = new Reader(tape);
    private final Machine machine = new Machine();
    private final Judge judge = new Judge(machine);
    private final Figures figures = new Figures(judge);
    private final Paper paper = new Paper(judge, figures);
    private final int[] orderWords = new int[ORDER_WORD_COUNT];
    // How many calls were REFUSED, each kind at the place of its number without the sign.
    private final int[] refused = new int[1 - WRONG_TEXT];
    private int faultPlace = NONE;
    private int commaCount = 0;
    private int stoppedAt = NONE;
    private int latestStatus = 0;

    public GladBasket() {
    }

    // ---- GOODS, PEOPLE, TERMS

    public int good(int base, int now, int weight, int glad, int place) {
        if (!canBeGood(base, now, weight, glad) || !within(place, 0, TOP_PLACE)) {
            return refuse(WRONG_NUMBER);
        }
        if (basket.goods >= GOODS) {
            return refuse(NO_ROOM);
        }
        history.clear();
        return grant(basket.add(base, now, weight, glad, place));
    }

    public int of(int good, int what) {
        return basket.read(good, what);
    }

    public int asks(int good, int what) {
        if (!basket.has(good) || !within(what, MOVES, BARS)) {
            return NOTHING;
        }
        return judge.tell(basket, basket.lawInForce(), good, what);
    }

    public int stand(int good, int other) {
        if (other != NONE && (other == good || !basket.has(other))) {
            return refuse(WRONG_NUMBER);
        }
        if (!basket.has(good)) {
            return refuse(NOT_THERE);
        }
        basket.write(good, STAND_IN, other);
        history.clear();
        return grant(0);
    }

    public int person() {
        if (basket.people >= PEOPLE) {
            return refuse(NO_ROOM);
        }
        basket.people++;
        return grant(basket.people - 1);
    }

    public int own(int person, int good, int weight) {
        if (!within(weight, 0, TOP_OWN)) {
            return refuse(WRONG_NUMBER);
        }
        if (!within(person, 0, basket.people - 1) || !basket.has(good)) {
            return refuse(NOT_THERE);
        }
        int was = basket.ownWeight(person, good);
        basket.owns[person * GOODS + good] = weight;
        return grant(was);
    }

    public int terms(int what, int value) {
        if (!within(what, 0, TERMS - 1) || !within(value, 0, TOP_TERM[what])) {
            return refuse(WRONG_NUMBER);
        }
        int was = basket.terms[what];
        basket.terms[what] = value;
        history.clear();
        return grant(was);
    }

    // ---- The TAPE and what is made of it

    public int feed(int a, int b, int c, int d, int e) {
        if (tape.length + 20 > BYTES) {
            return NONE;
        }
        tape.append(a);
        tape.append(b);
        tape.append(c);
        tape.append(d);
        tape.append(e);
        return tape.length;
    }

    public int end(int n) {
        if (!within(n, 0, tape.length)) {
            return NONE;
        }
        tape.length = n;
        return n;
    }

    public int row() {
        if (tape.length == 0) {
            return refuse(WRONG_TEXT);
        }
        int came = 0;
        commaCount = 0;
        for (int at = 0; at < tape.length; at += 4) {
            if (addFromTape(at)) {
                came++;
            } else {
                commaCount++;
            }
        }
        tape.length = 0;
        history.clear();
        return grant(came);
    }

    private boolean addFromTape(int at) {
        if (at + 4 > tape.length || basket.goods >= GOODS) {
            return false;
        }
        int base = tape.byteAt(at);
        int now = tape.byteAt(at + 1);
        int weight = tape.byteAt(at + 2);
        int glad = tape.byteAt(at + 3);
        if (!canBeGood(base, now, weight, glad)) {
            return false;
        }
        basket.add(base, now, weight, glad, 0);
        return true;
    }

    public int commas() {
        return commaCount;
    }

    public int law() {
        if (basket.lawCount >= LAWS) {
            tape.length = 0;
            return refuse(NO_ROOM);
        }
        faultPlace = reader.read(false);
        if (faultPlace != NONE) {
            return refuse(WRONG_TEXT);
        }
        return grant(basket.enact(new Program(reader.program)));
    }

    public int orders() {
        stoppedAt = NONE;
        faultPlace = reader.read(true);
        if (faultPlace != NONE) {
            return refuse(WRONG_TEXT);
        }
        before.copyFrom(basket);
        historyBefore.copyFrom(history);
        Program text = reader.program;
        orderWords[WORD_DONE] = 0;
        orderWords[WORD_LATEST] = NONE;
        for (int clause = 0; clause < text.clauses && stoppedAt == NONE; clause++) {
            for (int time = 0; time < text.times[clause] && stoppedAt == NONE; time++) {
                if (!runOnce(text, clause)) {
                    stoppedAt = clause;
                }
            }
        }
        if (stoppedAt != NONE) {
            basket.copyFrom(before);
            history.copyFrom(historyBefore);
            return refuse(CANNOT_BE);
        }
        return grant(orderWords[WORD_DONE]);
    }

    public int fault() {
        return faultPlace;
    }

    public int stopped() {
        return stoppedAt;
    }

    public int force(int law) {
        if (law != NONE && !within(law, 0, basket.lawCount - 1)) {
            return refuse(NOT_THERE);
        }
        int was = basket.force;
        basket.force = law;
        return grant(was);
    }

    /** False, if the CLAUSE can't be; one whose "if" is not so is passed over. */
    private boolean runOnce(Program text, int clause) {
        fillOrderWords(text);
        if (machine.run(text, clause, IF_TEST, orderWords) != 1) {
            return true;
        }
        int good = machine.run(text, clause, FIRST_SUM, orderWords);
        int weight = machine.run(text, clause, SECOND_SUM, orderWords);
        if (good == BROKEN || weight == BROKEN) {
            return false;
        }
        int told;
        switch (text.kinds[clause]) {
            case LACK:
                told = changeLacking(good, 1);
                break;
            case FIND:
                told = changeLacking(good, 0);
                break;
            case WEIGH:
                told = changeWeight(good, weight);
                break;
            default:
                told = passMonth();
                break;
        }
        if (told < 0) {
            return false;
        }
        if (text.kinds[clause] == WEIGH) {
            orderWords[WORD_LATEST] = told;
        }
        orderWords[WORD_DONE]++;
        return true;
    }

    private void fillOrderWords(Program text) {
        orderWords[WORD_MONTH] = basket.terms[MONTH];
        orderWords[WORD_LACKING] = basket.lackingCount();
        for (int good = 0; good < GOODS; good++) {
            orderWords[WORD_NOW + good] = basket.read(good, NOW);
            orderWords[WORD_WEIGHT + good] = basket.read(good, WEIGHT);
        }
        if (text.asksFigure) {
            figures.load(basket, basket.lawInForce());
            orderWords[WORD_FIGURE] = figures.hundredths();
        }
    }

    // ---- To LACK, to FIND, to WEIGH, a MONTH: what ORDERS do as well as calls

    private int changeLacking(int good, int lacks) {
        if (!basket.has(good)) {
            return NOT_THERE;
        }
        if (basket.read(good, LACKING) == lacks) {
            return CANNOT_BE;
        }
        history.remember(lacks == 1 ? LACK : FIND, good, basket);
        basket.write(good, LACKING, lacks);
        return basket.lackingCount();
    }

    private int changeWeight(int good, int weight) {
        if (!within(weight, 0, TOP_WEIGHT)) {
            return WRONG_NUMBER;
        }
        if (!basket.has(good)) {
            return NOT_THERE;
        }
        history.remember(WEIGH, good, basket);
        int was = basket.read(good, WEIGHT);
        basket.write(good, WEIGHT, weight);
        return was;
    }

    private int passMonth() {
        if (basket.terms[MONTH] >= TOP_MONTH) {
            return CANNOT_BE;
        }
        history.remember(PASS, NONE, basket);
        judge.moveAll(basket);
        return basket.terms[MONTH];
    }

    public int lack(int good) {
        return settle(changeLacking(good, 1));
    }

    public int find(int good) {
        return settle(changeLacking(good, 0));
    }

    public int weigh(int good, int weight) {
        return settle(changeWeight(good, weight));
    }

    public int pass() {
        return settle(passMonth());
    }

    public int undo() {
        if (history.size == 0) {
            return refuse(CANNOT_BE);
        }
        return grant(history.takeBack(basket));
    }

    // ---- On paper

    public long figure(int rule, int what) {
        if (!within(rule, 0, 3) || !within(what, 0, 1)) {
            return NONE;
        }
        figures.load(basket, basket.lawInForce());
        return figures.byRule(rule).side(what);
    }

    public long turned(int rule, int what) {
        if (!within(rule, 0, 3) || !within(what, 0, 1)) {
            return NONE;
        }
        figures.load(basket, basket.lawInForce());
        return figures.turnedByRule(rule).side(what);
    }

    public int pension() {
        figures.load(basket, basket.lawInForce());
        return figures.hundredths();
    }

    public int glad(int n, int what) {
        if (!within(n, 0, TOP_SOUGHT) || !within(what, 0, basket.goods)) {
            return NONE;
        }
        int cost = paper.cheapest(basket, n);
        return cost == NONE || what == 0 ? cost : paper.amountOf(what - 1);
    }

    public int round(int place, int i) {
        if (!within(place, 0, TOP_PLACE)) {
            return NONE;
        }
        int steps = paper.walk(basket, place);
        return i == NONE ? steps : paper.walkedTo(i);
    }

    public int spent(int cost, int glad, int i) {
        if (!within(cost, 0, TOP_SOUGHT) || !within(glad, 0, TOP_SOUGHT)) {
            return NONE;
        }
        int found = paper.seekSets(basket, cost, glad);
        return i == NONE ? found : paper.setAt(i);
    }

    public int ask(int cost, int glad, int what) {
        if (!within(cost, 0, TOP_SOUGHT) || !within(glad, 0, TOP_SOUGHT) || !within(what, 0, 1)) {
            return NONE;
        }
        int found = paper.seekSets(basket, cost, glad);
        int best = NONE;
        int left = NONE;
        for (int good = 0; good < basket.goods && found > 0; good++) {
            int with = paper.setsWith(good);
            int more = Math.max(with, found - with);
            if (best == NONE || more < left) {
                best = good;
                left = more;
            }
        }
        return what == 0 ? best : left;
    }

    public int fair(int good, int what) {
        if (!basket.has(good) || !within(what, 0, 1)) {
            return NONE;
        }
        int best = NONE;
        int least = 0;
        for (int weight = 0; weight <= TOP_OWN; weight++) {
            int off = 0;
            for (int person = 0; person < basket.people; person++) {
                off += Math.abs(basket.ownWeight(person, good) - weight);
            }
            if (best == NONE || off < least) {
                best = weight;
                least = off;
            }
        }
        return what == 0 ? best : least;
    }

    public int hear(int figure) {
        if (!within(figure, 0, TOP_HEARD)) {
            return refuse(WRONG_NUMBER);
        }
        if (basket.heardCount >= HEARD) {
            return refuse(NO_ROOM);
        }
        basket.heard[basket.heardCount] = figure;
        basket.heardCount++;
        return grant(basket.heardCount);
    }

    public int forget() {
        int was = basket.heardCount;
        basket.heardCount = 0;
        return was;
    }

    public int trend(int what) {
        if (basket.heardCount < 2 || !within(what, 0, 3)) {
            return NOTHING;
        }
        Fraction line = what < 2 ? paper.rise(basket) : paper.atStart(basket);
        return (int) line.side(what % 2);
    }

    public int does(int good) {
        if (!basket.has(good)) {
            return NOTHING;
        }
        figures.load(basket, basket.lawInForce());
        int with = figures.thousandths();
        figures.counts[good] = 0;
        return with - figures.thousandths();
    }

    public int compare(int law) {
        if (law != NONE && !within(law, 0, basket.lawCount - 1)) {
            return NONE;
        }
        figures.load(basket, basket.lawAt(law));
        return figures.thousandths();
    }

    public long gets(int good, int n) {
        if (!basket.has(good) || !within(n, 0, TOP_MONTHS)) {
            return NONE;
        }
        return paper.partsAtTop(basket.read(good, NOW), basket.terms[RISES], n);
    }

    // ---- YEARS, IMAGES, what is told of all

    public int years(int seed, int n) {
        if (!within(seed, 0, TOP_SEED) || !within(n, 1, TOP_MONTHS)) {
            return refuse(WRONG_NUMBER);
        }
        if (basket.goods == 0) {
            return refuse(CANNOT_BE);
        }
        drawnYears.copyFrom(basket);
        int greatest = 0;
        int s = seed;
        for (int month = 0; month < n && drawnYears.terms[MONTH] < TOP_MONTH; month++) {
            s = nextDraw(s);
            int good = Math.floorMod(s, Math.max(1, drawnYears.goods));
            s = nextDraw(s);
            drawnYears.befall(good, s % 4);
            judge.moveAll(drawnYears);
            figures.load(drawnYears, drawnYears.lawInForce());
            greatest = Math.max(greatest, figures.hundredths());
        }
        return grant(greatest);
    }

    private static int nextDraw(int s) {
        return (int) ((s * 1103L + 12345L) % 1000003L);
    }

    public int drawn(int good, int what) {
        if (!within(what, 0, 1)) {
            return NONE;
        }
        return drawnYears.read(good, what == 0 ? NOW : LACKING);
    }

    public int image(int k) {
        if (!within(k, 0, IMAGES - 1)) {
            return refuse(WRONG_NUMBER);
        }
        images[k].copyFrom(basket);
        imageKept[k] = 1;
        return grant(0);
    }

    public int back(int k) {
        if (!within(k, 0, IMAGES - 1)) {
            return refuse(WRONG_NUMBER);
        }
        if (imageKept[k] == 0) {
            return refuse(NOT_THERE);
        }
        basket.copyFrom(images[k]);
        history.clear();
        return grant(0);
    }

    public int count(int what) {
        switch (what) {
            case 0:
                return basket.goods;
            case 1:
                return basket.lackingCount();
            case 2:
                return basket.people;
            case 3:
                return basket.heardCount;
            case 4:
                return basket.lawCount;
            case 5:
                return history.size;
            case 6:
                return tape.length;
            case 7:
                return refused[-WRONG_NUMBER];
            case 8:
                return refused[-NOT_THERE];
            case 9:
                return refused[-CANNOT_BE];
            case 10:
                return refused[-NO_ROOM];
            case 11:
                return refused[-WRONG_TEXT];
            case 12:
                return basket.force;
            default:
                return within(what, 13, 15) ? basket.terms[what - 13] : NONE;
        }
    }

    public int status() {
        return latestStatus;
    }

    private int refuse(int by) {
        latestStatus = by;
        if (within(-by, 0, refused.length - 1)) {
            refused[-by]++;
        }
        return by;
    }

    private int grant(int answer) {
        latestStatus = 0;
        return answer;
    }

    /** For answers that are below 0 only when they tell what the call is REFUSED by. */
    private int settle(int answer) {
        return answer < 0 ? refuse(answer) : grant(answer);
    }

    private static boolean within(int value, int low, int high) {
        return low <= value && value <= high;
    }

    private static int nearest(int value, int low, int high) {
        return Math.max(low, Math.min(high, value));
    }

    private static boolean canBeGood(int base, int now, int weight, int glad) {
        return within(base, 1, TOP_PRICE) && within(now, 1, TOP_PRICE)
                && within(weight, 0, TOP_WEIGHT) && within(glad, 0, TOP_GLAD);
    }

    /** All that IMAGES keep, so that they, YEARS and ORDERS that can't be need but a copy of it. */
    private static final class Basket {
        int goods = 0;
        private final int[] traits = new int[GOODS * TRAITS];
        int people = 0;
        final int[] owns = new int[PEOPLE * GOODS];
        int heardCount = 0;
        final int[] heard = new int[HEARD];
        final int[] terms = {0, 3, 0};
        int lawCount = 0;
        private final Program[] laws = new Program[LAWS];
        int force = NONE;

        void copyFrom(Basket other) {
            goods = other.goods;
            System.arraycopy(other.traits, 0, traits, 0, GOODS * TRAITS);
            people = other.people;
            System.arraycopy(other.owns, 0, owns, 0, PEOPLE * GOODS);
            heardCount = other.heardCount;
            System.arraycopy(other.heard, 0, heard, 0, HEARD);
            System.arraycopy(other.terms, 0, terms, 0, TERMS);
            lawCount = other.lawCount;
            for (int law = 0; law < LAWS; law++) {
                laws[law] = other.laws[law];
            }
            force = other.force;
        }

        boolean has(int good) {
            return within(good, 0, goods - 1);
        }

        /** The callers have looked whether there is room. */
        int add(int base, int now, int weight, int glad, int place) {
            goods = Math.min(GOODS, goods + 1);
            int good = goods - 1;
            write(good, BASE, base);
            write(good, NOW, now);
            write(good, WEIGHT, weight);
            write(good, GLAD, glad);
            write(good, PLACE, place);
            write(good, LACKING, 0);
            write(good, STAND_IN, NONE);
            return good;
        }

        int read(int good, int trait) {
            boolean there = good >= 0 && good < goods && trait >= 0 && trait < TRAITS;
            return there ? traits[good * TRAITS + trait] : NONE;
        }

        void write(int good, int trait, int value) {
            if (has(good) && within(trait, 0, TRAITS - 1)) {
                traits[good * TRAITS + trait] = value;
            }
        }

        boolean lacks(int good) {
            return read(good, LACKING) == 1;
        }

        int lackingCount() {
            int count = 0;
            for (int good = 0; good < goods; good++) {
                count += read(good, LACKING);
            }
            return count;
        }

        /** The GOOD whose prices and PLACE hold for this one: its STAND-IN, if it LACKS (NONE: it is out). */
        int sourceOf(int good) {
            return read(good, LACKING) == 1 ? read(good, STAND_IN) : good;
        }

        int ownWeight(int person, int good) {
            return within(person, 0, PEOPLE - 1) && within(good, 0, GOODS - 1) ? owns[person * GOODS + good] : 0;
        }

        int enact(Program law) {
            lawCount = Math.min(LAWS, lawCount + 1);
            laws[lawCount - 1] = law;
            return lawCount - 1;
        }

        Program lawAt(int law) {
            return within(law, 0, lawCount - 1) ? laws[law] : null;
        }

        Program lawInForce() {
            return lawAt(force);
        }

        /** What a DRAW of 4 brings to a GOOD in YEARS. */
        void befall(int good, int draw) {
            int now = read(good, NOW);
            switch (draw) {
                case 0:
                    write(good, LACKING, 1);
                    break;
                case 1:
                    write(good, LACKING, 0);
                    break;
                case 2:
                    write(good, NOW, Math.min(TOP_PRICE, now + 1));
                    break;
                default:
                    write(good, NOW, Math.max(1, now - 1));
                    break;
            }
        }
    }

    /** What can be undone: how the basket was ahead of each change. */
    private static final class History {
        int size = 0;
        private final int[] kinds = new int[KEPT];
        private final int[] goods = new int[KEPT];
        private final int[] weights = new int[KEPT];
        private final int[] prices = new int[KEPT * GOODS];

        void clear() {
            size = 0;
        }

        void copyFrom(History other) {
            size = other.size;
            System.arraycopy(other.kinds, 0, kinds, 0, KEPT);
            System.arraycopy(other.goods, 0, goods, 0, KEPT);
            System.arraycopy(other.weights, 0, weights, 0, KEPT);
            System.arraycopy(other.prices, 0, prices, 0, KEPT * GOODS);
        }

        void remember(int kind, int good, Basket ahead) {
            if (size >= KEPT) {
                dropOldest();
            }
            kinds[size] = kind;
            goods[size] = good;
            weights[size] = ahead.read(good, WEIGHT);
            for (int each = 0; each < GOODS; each++) {
                prices[size * GOODS + each] = ahead.read(each, NOW);
            }
            size++;
        }

        private void dropOldest() {
            System.arraycopy(kinds, 1, kinds, 0, KEPT - 1);
            System.arraycopy(goods, 1, goods, 0, KEPT - 1);
            System.arraycopy(weights, 1, weights, 0, KEPT - 1);
            System.arraycopy(prices, GOODS, prices, 0, (KEPT - 1) * GOODS);
            size = KEPT - 1;
        }

        /** Undoes the latest: its kind. The caller has looked whether there is one. */
        int takeBack(Basket basket) {
            size = Math.max(0, size - 1);
            int good = goods[size];
            switch (kinds[size]) {
                case LACK:
                    basket.write(good, LACKING, 0);
                    break;
                case FIND:
                    basket.write(good, LACKING, 1);
                    break;
                case WEIGH:
                    basket.write(good, WEIGHT, weights[size]);
                    break;
                default:
                    for (int each = 0; each < basket.goods && each < GOODS; each++) {
                        basket.write(each, NOW, prices[size * GOODS + each]);
                    }
                    // terms() leaves nothing to undo, so the MONTH is still the one that this made.
                    basket.terms[MONTH]--;
                    break;
            }
            return kinds[size];
        }
    }

    /** The bytes, and the TOKEN of them that is being read. */
    private static final class Tape {
        private static final int BLANK = 32;
        private static final int SIGN = 0;
        private static final int LETTERS = 1;
        private static final int DIGITS = 2;
        private final int[] bytes = new int[BYTES];
        int length = 0;
        // Where the TOKEN begins and what is behind it; at the end both are the length.
        int start = 0;
        private int stop = 0;
        private int kind = SIGN;

        void append(int number) {
            for (int shift = 24; shift >= 0 && length < BYTES; shift -= 8) {
                bytes[length] = (number >>> shift) & 255;
                length++;
            }
        }

        int byteAt(int place) {
            return place >= 0 && place < length && place < BYTES ? bytes[place] : NONE;
        }

        void rewind() {
            stop = 0;
            step();
        }

        /** Goes to the next TOKEN. */
        void step() {
            start = stop;
            while (start < length && byteAt(start) == BLANK) {
                start++;
            }
            kind = kindOf(byteAt(start));
            stop = Math.min(length, start + 1);
            while (kind != SIGN && stop < length && kindOf(byteAt(stop)) == kind) {
                stop++;
            }
        }

        private static int kindOf(int value) {
            if (value >= 'a' && value <= 'z') {
                return LETTERS;
            }
            return value >= '0' && value <= '9' ? DIGITS : SIGN;
        }

        boolean ended() {
            return start >= length;
        }

        boolean isSign(int sign) {
            return byteAt(start) == sign;
        }

        /** Which of these signs it is. */
        int signIn(String signs) {
            return ended() ? NONE : signs.indexOf((char) byteAt(start));
        }

        boolean isNumber() {
            return kind == DIGITS;
        }

        /** Its value, if it is digits; one above TOP_NUMBER is told as the next above that. */
        int number() {
            if (kind != DIGITS) {
                return NONE;
            }
            int value = 0;
            for (int place = start; place < stop; place++) {
                value = Math.min(TOP_NUMBER + 1, value * 10 + byteAt(place) - '0');
            }
            return value;
        }

        /** Which of the words it is; the list has single blanks between them. */
        int wordIn(String list) {
            int index = 0;
            int at = start;
            boolean same = true;
            for (int i = 0; i <= list.length(); i++) {
                if (i == list.length() || list.charAt(i) == BLANK) {
                    if (same && at == stop) {
                        return index;
                    }
                    index++;
                    at = start;
                    same = true;
                } else {
                    same = same && at < stop && byteAt(at) == list.charAt(i);
                    at++;
                }
            }
            return NONE;
        }
    }

    /** A TEXT as code for the Machine. */
    private static final class Program {
        int size = 0;
        final int[] ops;
        final int[] args;
        int clauses = 0;
        final int[] kinds;
        final int[] times;
        // Where each piece of each CLAUSE begins; behind them where the last one ends.
        final int[] bounds;
        boolean asksFigure = false;

        /** Room for any TEXT: no TOKEN makes more than one step of code. */
        Program() {
            ops = new int[BYTES];
            args = new int[BYTES];
            kinds = new int[CLAUSES];
            times = new int[CLAUSES];
            bounds = new int[CLAUSES * PIECES + 1];
        }

        /** One to keep, with no more room than it needs. */
        Program(Program from) {
            size = nearest(from.size, 0, BYTES);
            clauses = nearest(from.clauses, 0, CLAUSES);
            ops = Arrays.copyOf(from.ops, size);
            args = Arrays.copyOf(from.args, size);
            kinds = Arrays.copyOf(from.kinds, clauses);
            times = Arrays.copyOf(from.times, clauses);
            bounds = Arrays.copyOf(from.bounds, clauses * PIECES + 1);
            asksFigure = from.asksFigure;
        }

        void clear() {
            size = 0;
            clauses = 0;
            asksFigure = false;
        }

        void beginClause(int kind) {
            if (clauses < CLAUSES) {
                kinds[clauses] = kind;
                times[clauses] = 1;
            }
        }

        void endPiece(int piece) {
            int at = clauses * PIECES + piece + 1;
            if (within(at, 0, bounds.length - 1)) {
                bounds[at] = size;
            }
        }

        /** Where the step stands. */
        int emit(int op, int arg) {
            int at = size;
            if (at < ops.length && at < args.length) {
                ops[at] = op;
                args[at] = arg;
                size++;
            }
            return at;
        }

        /** Lets a step skip all that has been put behind it. */
        void aimHere(int at) {
            if (within(at, 0, args.length - 1)) {
                args[at] = size;
            }
        }
    }

    /** Makes a Program of the TAPE. Its methods answer false at a FAULT: then the TAPE stands at it. */
    private static final class Reader {
        private final Tape tape;
        final Program program = new Program();
        private boolean asOrders = false;
        private int parts = 0;

        Reader(Tape tape) {
            this.tape = tape;
        }

        /** The place of the FAULT; NONE without. The TAPE is empty then. */
        int read(boolean ordersAreDue) {
            asOrders = ordersAreDue;
            parts = 0;
            program.clear();
            tape.rewind();
            boolean fine = true;
            boolean more = true;
            for (int clause = 0; clause < CLAUSES && fine && more; clause++) {
                fine = readClause();
                more = fine && readSign(';');
            }
            int place = fine && !more && tape.ended() ? NONE : tape.start;
            tape.length = 0;
            return place;
        }

        private boolean readClause() {
            int kind = tape.wordIn(asOrders ? ORDER_CLAUSES : LAW_CLAUSES);
            if (kind == NONE) {
                return false;
            }
            tape.step();
            program.beginClause(kind);
            // Both languages have their one without a SUM last.
            if (kind != PASS && !readSum(0)) {
                return false;
            }
            program.endPiece(FIRST_SUM);
            if (asOrders && kind == WEIGH && !(readKeyword("by") && readSum(0))) {
                return false;
            }
            program.endPiece(SECOND_SUM);
            if (asOrders && readKeyword("times") && !readTimes()) {
                return false;
            }
            if (readKeyword("if") && !readTest(0)) {
                return false;
            }
            program.endPiece(IF_TEST);
            program.clauses++;
            return true;
        }

        private boolean readKeyword(String word) {
            if (tape.wordIn(word) == NONE) {
                return false;
            }
            tape.step();
            return true;
        }

        private boolean readSign(int sign) {
            if (!tape.isSign(sign)) {
                return false;
            }
            tape.step();
            return true;
        }

        private boolean readTimes() {
            int number = tape.number();
            if (!within(number, 1, TOP_TIMES) || !within(program.clauses, 0, CLAUSES - 1)) {
                return false;
            }
            program.times[program.clauses] = number;
            tape.step();
            return true;
        }

        private boolean readTest(int depth) {
            boolean fine = readBoth(depth);
            for (int i = 0; i < BYTES && fine && readKeyword("or"); i++) {
                int skip = program.emit(DO_OR, 0);
                fine = readBoth(depth);
                program.aimHere(skip);
            }
            return fine;
        }

        private boolean readBoth(int depth) {
            boolean fine = readPlain(depth);
            for (int i = 0; i < BYTES && fine && readKeyword("and"); i++) {
                int skip = program.emit(DO_AND, 0);
                fine = readPlain(depth);
                program.aimHere(skip);
            }
            return fine;
        }

        /** A row of "not" is read in a loop: no bound is told for it, so it must not go deeper. */
        private boolean readPlain(int depth) {
            boolean not = false;
            for (int i = 0; i < BYTES && readKeyword("not"); i++) {
                not = !not;
            }
            boolean fine;
            if (tape.isSign('(')) {
                fine = depth < BRACKETS && readSign('(') && readTest(depth + 1) && readSign(')');
            } else {
                fine = readSum(depth);
                int sign = tape.signIn(TEST_SIGNS);
                fine = fine && sign != NONE;
                if (fine) {
                    tape.step();
                    fine = readSum(depth);
                    program.emit(DO_LESS + sign, 0);
                }
            }
            if (not) {
                program.emit(DO_NOT, 0);
            }
            return fine;
        }

        private boolean readSum(int depth) {
            boolean fine = readTerm(depth);
            int sign = tape.signIn(SUM_SIGNS);
            for (int i = 0; i < BYTES && fine && sign != NONE; i++) {
                tape.step();
                fine = readTerm(depth);
                program.emit(DO_PLUS + sign, 0);
                sign = tape.signIn(SUM_SIGNS);
            }
            return fine;
        }

        private boolean readTerm(int depth) {
            boolean fine = readPart(depth);
            int sign = tape.signIn(TERM_SIGNS);
            for (int i = 0; i < BYTES && fine && sign != NONE; i++) {
                tape.step();
                fine = readPart(depth);
                program.emit(DO_TIMES + sign, 0);
                sign = tape.signIn(TERM_SIGNS);
            }
            return fine;
        }

        private boolean readPart(int depth) {
            if (tape.isSign('[')) {
                return depth < BRACKETS && readSign('[') && readSum(depth + 1) && readSign(']');
            }
            if (parts >= PARTS) {
                return false;
            }
            parts++;
            return tape.isNumber() ? readNumber() : readWord();
        }

        private boolean readNumber() {
            int number = tape.number();
            if (number > TOP_NUMBER) {
                return false;
            }
            tape.step();
            program.emit(DO_NUMBER, number);
            return true;
        }

        private boolean readWord() {
            int word = tape.wordIn(asOrders ? ORDER_WORDS : LAW_WORDS);
            if (word == NONE) {
                return false;
            }
            tape.step();
            if (asOrders && word >= WORD_NOW) {
                int good = tape.number();
                if (!within(good, 0, GOODS - 1)) {
                    return false;
                }
                tape.step();
                word = (word == WORD_NOW ? WORD_NOW : WORD_WEIGHT) + good;
            }
            program.asksFigure |= asOrders && word == WORD_FIGURE;
            program.emit(DO_WORD, word);
            return true;
        }
    }

    /** Runs the code of SUMS and TESTS with the values that words have; a TEST is 1 or 0. */
    private static final class Machine {
        // A TEXT has no more PARTS than that which could stand open.
        private final int[] stack = new int[PARTS + 1];

        /** What a piece of a CLAUSE tells; 1, if there is nothing of it: no "if" is so, "bars" bars. */
        int run(Program text, int clause, int piece, int[] words) {
            int bound = clause * PIECES + piece;
            if (bound < 0 || bound + 1 >= text.bounds.length) {
                return BROKEN;
            }
            int at = text.bounds[bound];
            int end = Math.min(text.size, text.bounds[bound + 1]);
            if (at < 0 || at >= end) {
                return 1;
            }
            int top = 0;
            // Skips go forward alone, so there are no more turns than steps of code.
            for (int turn = at; turn < end && at < end; turn++) {
                int op = text.ops[at];
                int arg = text.args[at];
                at++;
                if (op <= DO_WORD) {
                    if (top >= stack.length || op == DO_WORD && (arg < 0 || arg >= words.length)) {
                        return BROKEN;
                    }
                    stack[top] = op == DO_NUMBER ? arg : words[arg];
                    top++;
                } else if (op <= DO_AND) {
                    if (top < 1) {
                        return BROKEN;
                    }
                    int latest = stack[top - 1];
                    if (op == DO_NOT) {
                        stack[top - 1] = 1 - latest;
                    } else if (latest == (op == DO_OR ? 1 : 0)) {
                        at = Math.max(at, arg);
                    } else {
                        top--;
                    }
                } else {
                    int joined = top < 2 ? BROKEN : join(op, stack[top - 2], stack[top - 1]);
                    if (joined == BROKEN) {
                        return BROKEN;
                    }
                    top--;
                    stack[top - 1] = joined;
                }
            }
            return top < 1 ? BROKEN : stack[0];
        }

        private static int join(int op, int left, int right) {
            if (right == 0 && (op == DO_DIVIDE || op == DO_REST)) {
                return BROKEN;
            }
            long value;
            switch (op) {
                case DO_PLUS:
                    value = (long) left + right;
                    break;
                case DO_MINUS:
                    value = (long) left - right;
                    break;
                case DO_TIMES:
                    value = (long) left * right;
                    break;
                case DO_DIVIDE:
                    value = left / right;
                    break;
                case DO_REST:
                    value = left % right;
                    break;
                case DO_LESS:
                    value = left < right ? 1 : 0;
                    break;
                case DO_MORE:
                    value = left > right ? 1 : 0;
                    break;
                default:
                    value = left == right ? 1 : 0;
                    break;
            }
            return value > TOP_SUM || value < -TOP_SUM ? BROKEN : (int) value;
        }
    }

    /** What a LAW tells of GOODS. */
    private static final class Judge {
        private final Machine machine;
        private final int[] words = new int[LAW_WORD_COUNT];
        private final int[] moves = new int[GOODS];

        Judge(Machine machine) {
            this.machine = machine;
        }

        /** By a LAW (null: none) how a GOOD MOVES, what it COUNTS, by how much it makes GLAD, whether BARRED. */
        int tell(Basket basket, Program law, int good, int what) {
            int told = BROKEN;
            if (law != null) {
                fillWords(basket, good);
                for (int clause = law.clauses - 1; clause >= 0 && told == BROKEN; clause--) {
                    if (law.kinds[clause] == what && machine.run(law, clause, IF_TEST, words) == 1) {
                        told = machine.run(law, clause, FIRST_SUM, words);
                    }
                }
            }
            boolean silent = told == BROKEN;
            switch (what) {
                case MOVES:
                    return silent ? 0 : nearest(told, -9, 9);
                case COUNTS:
                    if (basket.sourceOf(good) == NONE) {
                        return 0;
                    }
                    return silent ? basket.read(good, WEIGHT) : nearest(told, 0, TOP_WEIGHT);
                case GLADS:
                    return silent ? basket.read(good, GLAD) : nearest(told, 0, TOP_GLAD);
                default:
                    return silent ? 0 : 1;
            }
        }

        /** In the order of LAW_WORDS. */
        private void fillWords(Basket basket, int good) {
            words[0] = good;
            words[1] = basket.read(good, BASE);
            words[2] = basket.read(good, NOW);
            words[3] = basket.read(good, WEIGHT);
            words[4] = basket.read(good, GLAD);
            words[5] = basket.read(good, LACKING);
            words[6] = basket.read(good, PLACE);
            words[7] = basket.terms[MONTH];
            words[8] = basket.terms[MOOD];
        }

        /** A MONTH passes. The callers have looked whether it can. */
        void moveAll(Basket basket) {
            Program law = basket.lawInForce();
            for (int good = 0; good < GOODS; good++) {
                moves[good] = basket.has(good) ? tell(basket, law, good, MOVES) : 0;
            }
            for (int good = 0; good < GOODS; good++) {
                basket.write(good, NOW, nearest(basket.read(good, NOW) + moves[good], 1, TOP_PRICE));
            }
            basket.terms[MONTH]++;
        }
    }

    /** In lowest terms, what is below above 0. */
    private static final class Fraction {
        private long above = 0;
        private long below = 1;

        void put(long newAbove, long newBelow) {
            long divisor = commonDivisor(Math.abs(newAbove), Math.abs(newBelow));
            if (newBelow == 0 || divisor == 0) {
                above = 0;
                below = 1;
                return;
            }
            long sign = newBelow < 0 ? -1 : 1;
            above = sign * newAbove / divisor;
            below = sign * newBelow / divisor;
        }

        void add(long otherAbove, long otherBelow) {
            put(above * otherBelow + otherAbove * below, below * otherBelow);
        }

        void multiply(Fraction other) {
            put(above * other.above, below * other.below);
        }

        void divide(long by) {
            put(above, below * by);
        }

        long side(int what) {
            return what == 0 ? above : below;
        }

        private static long commonDivisor(long a, long b) {
            long x = a;
            long y = b;
            // Each two turns halve the numbers at least, so a long needs fewer than 200.
            for (int turn = 0; turn < 200 && y != 0; turn++) {
                long rest = x % y;
                x = y;
                y = rest;
            }
            return x;
        }
    }

    /** Prices, what COUNTS, and the FIGURES of them. */
    private static final class Figures {
        private final Judge judge;
        private int goods = 0;
        private final int[] bases = new int[GOODS];
        private final int[] nows = new int[GOODS];
        final int[] counts = new int[GOODS];
        private final Fraction plain = new Fraction();
        private final Fraction changed = new Fraction();

        Figures(Judge judge) {
            this.judge = judge;
        }

        /** Takes the prices of a basket and what COUNTS in it by a LAW (null: none). */
        void load(Basket basket, Program law) {
            goods = Math.min(GOODS, basket.goods);
            for (int good = 0; good < goods; good++) {
                int source = basket.sourceOf(good);
                bases[good] = basket.read(source, BASE);
                nows[good] = basket.read(source, NOW);
                counts[good] = judge.tell(basket, law, good, COUNTS);
            }
        }

        private int countOfAll() {
            int all = 0;
            for (int good = 0; good < goods; good++) {
                all += counts[good];
            }
            return all;
        }

        Fraction byRule(int rule) {
            reckon(rule, nows, bases, plain);
            return plain;
        }

        Fraction turnedByRule(int rule) {
            reckon(rule, nows, bases, plain);
            reckon(rule, bases, nows, changed);
            plain.multiply(changed);
            return plain;
        }

        /** A FIGURE of the one row of prices by the other. */
        private void reckon(int rule, int[] above, int[] below, Fraction result) {
            result.put(0, 1);
            if (countOfAll() == 0) {
                return;
            }
            switch (rule) {
                case 0:
                    result.put(weighed(above), weighed(below));
                    break;
                case 1:
                    for (int good = 0; good < goods; good++) {
                        if (counts[good] > 0) {
                            result.add((long) above[good] * counts[good], below[good]);
                        }
                    }
                    result.divide(countOfAll());
                    break;
                default:
                    int good = outermost(above, below, rule == 2 ? 1 : -1);
                    if (within(good, 0, goods - 1)) {
                        result.put(above[good], below[good]);
                    }
                    break;
            }
        }

        private long weighed(int[] prices) {
            long sum = 0;
            for (int good = 0; good < goods; good++) {
                sum += (long) prices[good] * counts[good];
            }
            return sum;
        }

        /** The GOOD that COUNTS with the greatest of the one by the other (sign 1) or the least (-1). */
        private int outermost(int[] above, int[] below, int sign) {
            int best = NONE;
            for (int good = 0; good < goods; good++) {
                if (counts[good] > 0 && (best == NONE
                        || sign * (above[good] * below[best] - above[best] * below[good]) > 0)) {
                    best = good;
                }
            }
            return best;
        }

        /** PENSION. */
        int hundredths() {
            return countOfAll() == 0 ? 100 : cutTimes(100);
        }

        int thousandths() {
            return cutTimes(1000);
        }

        /** So many times FIGURE 0, cut. */
        private int cutTimes(int times) {
            long below = weighed(bases);
            return below == 0 ? 0 : (int) (times * weighed(nows) / below);
        }
    }

    /** All else that is found out without a change to the basket. */
    private static final class Paper {
        private static final int SETS = 256;
        private static final int TOP_AMOUNT = 9;
        private static final int TOO_DEAR = 1000000;
        private static final int WIDTH = TOP_SOUGHT + 1;
        private final Judge judge;
        private final Figures figures;
        // By a GOOD and how GLAD: what it costs at least with that GOOD and those behind it.
        private final int[] least = new int[(GOODS + 1) * WIDTH];
        private final int[] amounts = new int[GOODS];
        private final int[] nows = new int[GOODS];
        private final int[] glads = new int[GOODS];
        private final int[] mosts = new int[GOODS];
        // By a set of GOODS and a GOOD: the fewest STEPS from that one's PLACE through theirs.
        private final int[] stepsLeft = new int[SETS * GOODS];
        private final int[] places = new int[GOODS];
        private final int[] walked = new int[GOODS];
        private int walkedCount = 0;
        private final int[] sets = new int[SETS];
        private int setCount = 0;
        private final long[] chances = new long[TOP_PRICE + 1];
        private final Fraction line = new Fraction();

        Paper(Judge judge, Figures figures) {
            this.judge = judge;
            this.figures = figures;
        }

        /** What each GOOD costs, how GLAD it makes, and how many of it can be had. */
        private void loadWares(Basket basket) {
            Program law = basket.lawInForce();
            for (int good = 0; good < basket.goods && good < GOODS; good++) {
                nows[good] = basket.read(good, NOW);
                glads[good] = judge.tell(basket, law, good, GLADS);
                boolean had = !basket.lacks(good) && judge.tell(basket, law, good, BARS) == 0;
                mosts[good] = had ? TOP_AMOUNT : 0;
            }
        }

        /** What it costs at least to be GLAD by n; NONE, if it can't be. */
        int cheapest(Basket basket, int n) {
            loadWares(basket);
            int goods = Math.min(GOODS, basket.goods);
            int sought = nearest(n, 0, TOP_SOUGHT);
            for (int rest = 0; rest <= sought; rest++) {
                least[goods * WIDTH + rest] = rest == 0 ? 0 : TOO_DEAR;
            }
            for (int good = goods - 1; good >= 0; good--) {
                for (int rest = 0; rest <= sought; rest++) {
                    least[good * WIDTH + rest] = costWith(good, rest, bestAmount(good, rest));
                }
            }
            int rest = sought;
            for (int good = 0; good < goods; good++) {
                amounts[good] = bestAmount(good, rest);
                rest = Math.max(0, rest - amounts[good] * glads[good]);
            }
            return least[sought] >= TOO_DEAR ? NONE : least[sought];
        }

        /** The lowest of the amounts of a GOOD that cost least: so the first row is found. */
        private int bestAmount(int good, int rest) {
            int best = 0;
            int bestCost = costWith(good, rest, 0);
            // More than is enough never costs less.
            for (int amount = 1; amount <= mosts[good] && (amount - 1) * glads[good] < rest; amount++) {
                int cost = costWith(good, rest, amount);
                if (cost < bestCost) {
                    best = amount;
                    bestCost = cost;
                }
            }
            return best;
        }

        private int costWith(int good, int rest, int amount) {
            int still = nearest(rest - amount * glads[good], 0, TOP_SOUGHT);
            return Math.min(TOO_DEAR, amount * nows[good] + least[(good + 1) * WIDTH + still]);
        }

        int amountOf(int good) {
            return within(good, 0, GOODS - 1) ? amounts[good] : NONE;
        }

        /** The fewest STEPS of a ROUND. */
        int walk(Basket basket, int place) {
            int wanted = loadPlaces(basket);
            for (int set = 1; set < wanted && set < SETS; set++) {
                for (int from = 0; from < GOODS && (set & wanted) == set; from++) {
                    if (((wanted & ~set) >> from & 1) == 1) {
                        stepsLeft[set * GOODS + from] = shortest(places[from], set) / GOODS;
                    }
                }
            }
            walkedCount = 0;
            int steps = shortest(place, wanted) / GOODS;
            int here = place;
            int set = wanted;
            for (int turn = 0; turn < GOODS && set != 0; turn++) {
                int next = shortest(here, set) % GOODS;
                walked[turn] = next;
                walkedCount = turn + 1;
                here = places[next];
                set &= ~(1 << next);
            }
            return steps;
        }

        /** The set of GOODS that a ROUND goes for. */
        private int loadPlaces(Basket basket) {
            figures.load(basket, basket.lawInForce());
            int wanted = 0;
            for (int good = 0; good < GOODS; good++) {
                boolean counts = basket.has(good) && figures.counts[good] > 0;
                places[good] = counts ? basket.read(basket.sourceOf(good), PLACE) : 0;
                wanted |= counts ? 1 << good : 0;
            }
            return wanted;
        }

        /**
         * The fewest STEPS from a PLACE through a set (0 through none), times GOODS, and the GOOD to go to first:
         * so the least of these has the lowest GOOD by which the way is shortest.
         */
        private int shortest(int place, int set) {
            int best = NONE;
            for (int good = 0; good < GOODS && set < SETS; good++) {
                if ((set >> good & 1) == 1) {
                    int others = set & ~(1 << good);
                    int steps = stepsBetween(place, places[good]);
                    if (others > 0) {
                        steps += stepsLeft[others * GOODS + good];
                    }
                    int way = steps * GOODS + good;
                    best = best == NONE ? way : Math.min(best, way);
                }
            }
            return Math.max(0, best);
        }

        private static int stepsBetween(int place, int other) {
            return Math.abs(place % SIDE - other % SIDE) + Math.abs(place / SIDE - other / SIDE);
        }

        int walkedTo(int i) {
            return within(i, 0, Math.min(GOODS, walkedCount) - 1) ? walked[i] : NONE;
        }

        /** How many sets cost just so much and make GLAD just so. */
        int seekSets(Basket basket, int cost, int glad) {
            loadWares(basket);
            int goods = Math.min(GOODS, basket.goods);
            setCount = 0;
            for (int set = 0; set < 1 << goods && setCount < SETS; set++) {
                int costLeft = cost;
                int gladLeft = glad;
                boolean allHad = true;
                for (int good = 0; good < goods; good++) {
                    if ((set >> good & 1) == 1) {
                        costLeft -= nows[good];
                        gladLeft -= glads[good];
                        allHad &= !basket.lacks(good);
                    }
                }
                if (allHad && costLeft == 0 && gladLeft == 0) {
                    sets[setCount] = set;
                    setCount++;
                }
            }
            return setCount;
        }

        int setAt(int i) {
            return within(i, 0, Math.min(SETS, setCount) - 1) ? sets[i] : NONE;
        }

        int setsWith(int good) {
            int with = 0;
            for (int i = 0; i < setCount && i < SETS; i++) {
                with += sets[i] >> good & 1;
            }
            return with;
        }

        /** The rise in a month of a TREND. The callers have looked whether two were HEARD. */
        Fraction rise(Basket basket) {
            long n = basket.heardCount;
            long x = sumOfMonths(basket, 1, 0);
            long y = sumOfMonths(basket, 0, 1);
            line.put(n * sumOfMonths(basket, 1, 1) - x * y, n * sumOfMonths(basket, 2, 0) - x * x);
            return line;
        }

        /** What a TREND would be in month 0. */
        Fraction atStart(Basket basket) {
            long n = basket.heardCount;
            long x = sumOfMonths(basket, 1, 0);
            long xx = sumOfMonths(basket, 2, 0);
            line.put(sumOfMonths(basket, 0, 1) * xx - x * sumOfMonths(basket, 1, 1), n * xx - x * x);
            return line;
        }

        /** Of all HEARD the month so often times itself, and the figure so often, together. */
        private static long sumOfMonths(Basket basket, int monthTimes, int figureTimes) {
            long sum = 0;
            for (int month = 0; month < basket.heardCount && month < HEARD; month++) {
                long product = 1;
                for (int i = 0; i < monthTimes; i++) {
                    product *= month;
                }
                for (int i = 0; i < figureTimes; i++) {
                    product *= basket.heard[month];
                }
                sum += product;
            }
            return sum;
        }

        /** GETS: what is at each price is shared out month by month, each share cut. */
        long partsAtTop(int now, int rises, int n) {
            Arrays.fill(chances, 0);
            chances[nearest(now, 0, TOP_PRICE)] = ALL_PARTS;
            for (int month = 0; month < n; month++) {
                chances[TOP_PRICE] += chances[TOP_PRICE - 1] * rises / 10;
                for (int price = TOP_PRICE - 1; price >= 1; price--) {
                    chances[price] = chances[price] * (10 - rises) / 10 + chances[price - 1] * rises / 10;
                }
            }
            return chances[TOP_PRICE];
        }
    }
}
