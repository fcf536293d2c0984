import java.math.BigInteger;
import java.util.ArrayDeque;
import java.util.ArrayList;
import java.util.Deque;
import java.util.List;
import java.util.function.ToLongFunction;
import java.util.regex.Matcher;
import java.util.regex.Pattern;

/**
 * The document once more, as slowly and plainly as can be: what AgreementTest compares the class with. It tries all
 * rows, ways and sets, keeps texts as trees, and goes back by whole copies.
 */
final class PlainBasket {
    private static final class Broken extends RuntimeException {
        private static final long serialVersionUID = 1;

        Broken() {
            super(null, null, false, false);
        }
    }

    private static final class Fault extends RuntimeException {
        private static final long serialVersionUID = 1;
        final int place;

        Fault(int place) {
            super(null, null, false, false);
            this.place = place;
        }
    }

    private static final class Good {
        int base, now, weight, glad, place, standIn = -1;
        boolean lacks;

        Good copy() {
            Good g = new Good();
            g.base = base;
            g.now = now;
            g.weight = weight;
            g.glad = glad;
            g.place = place;
            g.standIn = standIn;
            g.lacks = lacks;
            return g;
        }
    }

    /** A word asked of a state, of a GOOD, or of ORDERS that are being run. */
    private static final class Asked {
        State state;
        int good;
        int done;
        int latest = -1;
    }

    private static final class Clause {
        String kind;
        ToLongFunction<Asked> first, second;
        ToLongFunction<Asked> test;
        int times = 1;
    }

    private static final class State {
        List<Good> goods = new ArrayList<>();
        int people;
        int[][] own = new int[5][8];
        List<Integer> heard = new ArrayList<>();
        int month, rises = 3, mood;
        List<List<Clause>> laws = new ArrayList<>();
        int force = -1;

        State copy() {
            State s = new State();
            for (Good g : goods) {
                s.goods.add(g.copy());
            }
            s.people = people;
            for (int i = 0; i < 5; i++) {
                s.own[i] = own[i].clone();
            }
            s.heard.addAll(heard);
            s.month = month;
            s.rises = rises;
            s.mood = mood;
            s.laws.addAll(laws);
            s.force = force;
            return s;
        }

        boolean has(int good) {
            return good >= 0 && good < goods.size();
        }

        int lacking() {
            return (int) goods.stream().filter(g -> g.lacks).count();
        }

        int tells(int law, String kind, int good) {
            Good g = goods.get(good);
            Asked asked = new Asked();
            asked.state = this;
            asked.good = good;
            Long told = null;
            boolean holds = false;
            for (Clause c : law < 0 ? new ArrayList<Clause>() : laws.get(law)) {
                if (c.kind.equals(kind)) {
                    try {
                        if (c.test == null || c.test.applyAsLong(asked) == 1) {
                            told = c.first == null ? null : (Long) c.first.applyAsLong(asked);
                            holds = true;
                        }
                    } catch (Broken broken) {
                        continue;
                    }
                }
            }
            switch (kind) {
                case "moves":
                    return told == null ? 0 : (int) Math.max(-9, Math.min(9, told));
                case "counts":
                    if (g.lacks && g.standIn < 0) {
                        return 0;
                    }
                    return told == null ? g.weight : (int) Math.max(0, Math.min(99, told));
                case "glads":
                    return told == null ? g.glad : (int) Math.max(0, Math.min(9, told));
                default:
                    return holds ? 1 : 0;
            }
        }

        void passMonth() {
            int[] nows = new int[goods.size()];
            for (int i = 0; i < nows.length; i++) {
                nows[i] = Math.max(1, Math.min(12, goods.get(i).now + tells(force, "moves", i)));
            }
            for (int i = 0; i < nows.length; i++) {
                goods.get(i).now = nows[i];
            }
            month++;
        }

        Good prices(int good) {
            Good g = goods.get(good);
            return g.lacks && g.standIn >= 0 ? goods.get(g.standIn) : g;
        }

        BigInteger[] figure(int rule, int law, int without, boolean changed) {
            BigInteger[] sum = {BigInteger.ZERO, BigInteger.ONE};
            BigInteger[] best = null;
            long above = 0;
            long below = 0;
            long counts = 0;
            for (int i = 0; i < goods.size(); i++) {
                int count = i == without ? 0 : tells(law, "counts", i);
                if (count == 0) {
                    continue;
                }
                long now = changed ? prices(i).base : prices(i).now;
                long base = changed ? prices(i).now : prices(i).base;
                counts += count;
                above += now * count;
                below += base * count;
                sum = lowest(sum[0].multiply(big(base)).add(sum[1].multiply(big(now * count))),
                        sum[1].multiply(big(base)));
                BigInteger[] one = lowest(big(now), big(base));
                int compared = best == null ? 0 : one[0].multiply(best[1]).compareTo(best[0].multiply(one[1]));
                if (best == null || rule == 2 && compared > 0 || rule == 3 && compared < 0) {
                    best = one;
                }
            }
            if (counts == 0) {
                return new BigInteger[] {BigInteger.ZERO, BigInteger.ONE};
            }
            if (rule == 0) {
                return lowest(big(above), big(below));
            }
            return rule == 1 ? lowest(sum[0], sum[1].multiply(big(counts))) : best;
        }

        int times(int often, int law, int without) {
            BigInteger[] f = figure(0, law, without, false);
            return big(often).multiply(f[0]).divide(f[1]).intValueExact();
        }

        int pension() {
            return figure(0, force, -1, false)[0].signum() == 0 ? 100 : times(100, force, -1);
        }
    }

    private static BigInteger big(long n) {
        return BigInteger.valueOf(n);
    }

    private static BigInteger[] lowest(BigInteger above, BigInteger below) {
        BigInteger d = above.gcd(below);
        if (below.signum() < 0) {
            d = d.negate();
        }
        return new BigInteger[] {above.divide(d), below.divide(d)};
    }

    /** Reads either language; FAULTS are thrown. */
    private static final class Text {
        final List<String> tokens = new ArrayList<>();
        final List<Integer> places = new ArrayList<>();
        final boolean orders;
        int at = 0;
        int parts = 0;
        int open = 0;

        Text(List<Integer> tape, boolean orders) {
            this.orders = orders;
            StringBuilder all = new StringBuilder();
            for (int b : tape) {
                all.append((char) b);
            }
            Matcher m = Pattern.compile("[a-z]+|[0-9]+|[^ ]", Pattern.DOTALL).matcher(all);
            while (m.find()) {
                tokens.add(m.group());
                places.add(m.start());
            }
            tokens.add("");
            places.add(tape.size());
        }

        String token() {
            return tokens.get(at);
        }

        Fault fault() {
            return new Fault(places.get(at));
        }

        boolean take(String token) {
            if (token().equals(token)) {
                at++;
                return true;
            }
            return false;
        }

        void must(String token) {
            if (!take(token)) {
                throw fault();
            }
        }

        int number(int low, int high) {
            if (!token().matches("[0-9]+") || new BigInteger(token()).compareTo(big(high)) > 0
                    || new BigInteger(token()).compareTo(big(low)) < 0) {
                throw fault();
            }
            return Integer.parseInt(tokens.get(at++));
        }

        List<Clause> clauses() {
            List<Clause> all = new ArrayList<>();
            do {
                if (all.size() == 12) {
                    throw fault();
                }
                all.add(clause());
            } while (take(";"));
            must("");
            return all;
        }

        Clause clause() {
            Clause c = new Clause();
            c.kind = token();
            List<String> kinds = orders ? List.of("lack", "find", "weigh", "pass")
                    : List.of("moves", "counts", "glads", "bars");
            if (!kinds.contains(c.kind)) {
                throw fault();
            }
            at++;
            if (!c.kind.equals("pass") && !c.kind.equals("bars")) {
                c.first = sum();
            }
            if (c.kind.equals("weigh")) {
                must("by");
                c.second = sum();
            }
            if (orders && take("times")) {
                c.times = number(1, 20);
            }
            if (take("if")) {
                c.test = test();
            }
            return c;
        }

        ToLongFunction<Asked> test() {
            ToLongFunction<Asked> left = both();
            if (!take("or")) {
                return left;
            }
            ToLongFunction<Asked> right = test();
            return a -> left.applyAsLong(a) == 1 ? 1 : right.applyAsLong(a);
        }

        ToLongFunction<Asked> both() {
            ToLongFunction<Asked> left = plain();
            if (!take("and")) {
                return left;
            }
            ToLongFunction<Asked> right = both();
            return a -> left.applyAsLong(a) == 0 ? 0 : right.applyAsLong(a);
        }

        ToLongFunction<Asked> plain() {
            if (take("not")) {
                ToLongFunction<Asked> inner = plain();
                return a -> 1 - inner.applyAsLong(a);
            }
            if (token().equals("(")) {
                bracket();
                ToLongFunction<Asked> inner = test();
                must(")");
                open--;
                return inner;
            }
            ToLongFunction<Asked> left = sum();
            String sign = token();
            if (!sign.equals("<") && !sign.equals(">") && !sign.equals("=")) {
                throw fault();
            }
            at++;
            ToLongFunction<Asked> right = sum();
            return a -> {
                int compared = Long.compare(left.applyAsLong(a), right.applyAsLong(a));
                return compared == "<=>".indexOf(sign) - 1 ? 1 : 0;
            };
        }

        void bracket() {
            if (open == 8) {
                throw fault();
            }
            open++;
            at++;
        }

        ToLongFunction<Asked> sum() {
            ToLongFunction<Asked> left = term();
            while (token().equals("+") || token().equals("-")) {
                left = joined(tokens.get(at++), left, term());
            }
            return left;
        }

        ToLongFunction<Asked> term() {
            ToLongFunction<Asked> left = part();
            while (token().equals("*") || token().equals("/") || token().equals("%")) {
                left = joined(tokens.get(at++), left, part());
            }
            return left;
        }

        static ToLongFunction<Asked> joined(String sign, ToLongFunction<Asked> left, ToLongFunction<Asked> right) {
            return a -> {
                BigInteger x = big(left.applyAsLong(a));
                BigInteger y = big(right.applyAsLong(a));
                if ("/%".contains(sign) && y.signum() == 0) {
                    throw new Broken();
                }
                BigInteger z = sign.equals("+") ? x.add(y) : sign.equals("-") ? x.subtract(y)
                        : sign.equals("*") ? x.multiply(y) : sign.equals("/") ? x.divide(y) : x.remainder(y);
                if (z.abs().compareTo(big(1000000000)) > 0) {
                    throw new Broken();
                }
                return z.longValueExact();
            };
        }

        ToLongFunction<Asked> part() {
            if (token().equals("[")) {
                bracket();
                ToLongFunction<Asked> inner = sum();
                must("]");
                open--;
                return inner;
            }
            if (++parts > 50) {
                throw fault();
            }
            if (token().matches("[0-9]+")) {
                long n = number(0, 1000);
                return a -> n;
            }
            String word = token();
            if (orders) {
                switch (word) {
                    case "now":
                    case "weight":
                        at++;
                        int g = number(0, 7);
                        return a -> !a.state.has(g) ? -1
                                : word.equals("now") ? a.state.goods.get(g).now : a.state.goods.get(g).weight;
                    case "month": at++; return a -> a.state.month;
                    case "done": at++; return a -> a.done;
                    case "latest": at++; return a -> a.latest;
                    case "figure": at++; return a -> a.state.pension();
                    case "lacking": at++; return a -> a.state.lacking();
                    default: throw fault();
                }
            }
            switch (word) {
                case "good": at++; return a -> a.good;
                case "base": at++; return a -> a.state.goods.get(a.good).base;
                case "now": at++; return a -> a.state.goods.get(a.good).now;
                case "weight": at++; return a -> a.state.goods.get(a.good).weight;
                case "glad": at++; return a -> a.state.goods.get(a.good).glad;
                case "lacks": at++; return a -> a.state.goods.get(a.good).lacks ? 1 : 0;
                case "place": at++; return a -> a.state.goods.get(a.good).place;
                case "month": at++; return a -> a.state.month;
                case "mood": at++; return a -> a.state.mood;
                default: throw fault();
            }
        }
    }

    /** A change and the state ahead of it. */
    private record Change(int kind, State ahead) { }

    private State x = new State();
    private Deque<Change> changes = new ArrayDeque<>();
    private final State[] images = new State[2];
    private State years = new State();
    private final List<Integer> tape = new ArrayList<>();
    private int fault = -1;
    private int stopped = -1;
    private int commas = 0;
    private int status = 0;
    private final int[] refused = new int[7];

    private int no(int by) {
        refused[-by]++;
        status = by;
        return by;
    }

    private int yes(int answer) {
        status = 0;
        return answer;
    }

    private static boolean in(int n, int low, int high) {
        return n >= low && n <= high;
    }

    public int good(int base, int now, int weight, int glad, int place) {
        if (!in(base, 1, 12) || !in(now, 1, 12) || !in(weight, 0, 99) || !in(glad, 0, 9) || !in(place, 0, 24)) {
            return no(-1);
        }
        if (x.goods.size() == 8) {
            return no(-5);
        }
        changes.clear();
        add(base, now, weight, glad, place);
        return yes(x.goods.size() - 1);
    }

    private void add(int base, int now, int weight, int glad, int place) {
        Good g = new Good();
        g.base = base;
        g.now = now;
        g.weight = weight;
        g.glad = glad;
        g.place = place;
        x.goods.add(g);
    }

    public int of(int good, int what) {
        if (!x.has(good) || !in(what, 0, 6)) {
            return -1;
        }
        Good g = x.goods.get(good);
        return new int[] {g.base, g.now, g.weight, g.glad, g.place, g.lacks ? 1 : 0, g.standIn}[what];
    }

    public int asks(int good, int what) {
        if (!x.has(good) || !in(what, 0, 3)) {
            return -100000;
        }
        return x.tells(x.force, new String[] {"moves", "counts", "glads", "bars"}[what], good);
    }

    public int stand(int good, int other) {
        if (other != -1 && (other == good || !x.has(other))) {
            return no(-1);
        }
        if (!x.has(good)) {
            return no(-2);
        }
        changes.clear();
        x.goods.get(good).standIn = other;
        return yes(0);
    }

    public int person() {
        return x.people == 5 ? no(-5) : yes(x.people++);
    }

    public int own(int person, int good, int weight) {
        if (!in(weight, 0, 9)) {
            return no(-1);
        }
        if (!in(person, 0, x.people - 1) || !x.has(good)) {
            return no(-2);
        }
        int was = x.own[person][good];
        x.own[person][good] = weight;
        return yes(was);
    }

    public int terms(int what, int value) {
        if (!in(what, 0, 2) || !in(value, 0, new int[] {999, 10, 9}[what])) {
            return no(-1);
        }
        changes.clear();
        int was = count(13 + what);
        if (what == 0) {
            x.month = value;
        } else if (what == 1) {
            x.rises = value;
        } else {
            x.mood = value;
        }
        return yes(was);
    }

    public int feed(int a, int b, int c, int d, int e) {
        if (tape.size() > 380) {
            return -1;
        }
        for (int n : new int[] {a, b, c, d, e}) {
            for (byte one : java.nio.ByteBuffer.allocate(4).putInt(n).array()) {
                tape.add(one & 255);
            }
        }
        return tape.size();
    }

    public int end(int n) {
        if (!in(n, 0, tape.size())) {
            return -1;
        }
        tape.subList(n, tape.size()).clear();
        return n;
    }

    public int row() {
        if (tape.isEmpty()) {
            return no(-6);
        }
        changes.clear();
        int came = 0;
        commas = 0;
        while (!tape.isEmpty()) {
            List<Integer> four = new ArrayList<>(tape.subList(0, Math.min(4, tape.size())));
            tape.subList(0, four.size()).clear();
            if (four.size() == 4 && x.goods.size() < 8 && in(four.get(0), 1, 12) && in(four.get(1), 1, 12)
                    && in(four.get(2), 0, 99) && in(four.get(3), 0, 9)) {
                add(four.get(0), four.get(1), four.get(2), four.get(3), 0);
                came++;
            } else {
                commas++;
            }
        }
        return yes(came);
    }

    public int commas() {
        return commas;
    }

    private List<Clause> read(boolean orders) {
        List<Integer> text = new ArrayList<>(tape);
        tape.clear();
        fault = -1;
        try {
            return new Text(text, orders).clauses();
        } catch (Fault f) {
            fault = f.place;
            return null;
        }
    }

    public int law() {
        if (x.laws.size() == 6) {
            tape.clear();
            return no(-5);
        }
        List<Clause> law = read(false);
        if (law == null) {
            return no(-6);
        }
        x.laws.add(law);
        return yes(x.laws.size() - 1);
    }

    public int orders() {
        stopped = -1;
        List<Clause> text = read(true);
        if (text == null) {
            return no(-6);
        }
        State ahead = x.copy();
        Deque<Change> changesAhead = new ArrayDeque<>(changes);
        Asked asked = new Asked();
        for (int i = 0; i < text.size(); i++) {
            for (int t = 0; t < text.get(i).times; t++) {
                if (!run(text.get(i), asked)) {
                    stopped = i;
                    x = ahead;
                    changes = changesAhead;
                    return no(-3);
                }
            }
        }
        return yes(asked.done);
    }

    private boolean run(Clause c, Asked asked) {
        asked.state = x;
        try {
            if (c.test != null && c.test.applyAsLong(asked) != 1) {
                return true;
            }
        } catch (Broken broken) {
            return true;
        }
        long first;
        long second;
        try {
            first = c.first == null ? 0 : c.first.applyAsLong(asked);
            second = c.second == null ? 0 : c.second.applyAsLong(asked);
        } catch (Broken broken) {
            return false;
        }
        int told = c.kind.equals("lack") ? doLack((int) first) : c.kind.equals("find") ? doFind((int) first)
                : c.kind.equals("weigh") ? doWeigh((int) first, (int) second) : doPass();
        if (told < 0) {
            return false;
        }
        if (c.kind.equals("weigh")) {
            asked.latest = told;
        }
        asked.done++;
        return true;
    }

    private void keep(int kind) {
        changes.push(new Change(kind, x.copy()));
        if (changes.size() > 16) {
            changes.removeLast();
        }
    }

    private int doLack(int good) {
        if (!x.has(good)) {
            return -2;
        }
        if (x.goods.get(good).lacks) {
            return -3;
        }
        keep(0);
        x.goods.get(good).lacks = true;
        return x.lacking();
    }

    private int doFind(int good) {
        if (!x.has(good)) {
            return -2;
        }
        if (!x.goods.get(good).lacks) {
            return -3;
        }
        keep(1);
        x.goods.get(good).lacks = false;
        return x.lacking();
    }

    private int doWeigh(int good, int weight) {
        if (!in(weight, 0, 99)) {
            return -1;
        }
        if (!x.has(good)) {
            return -2;
        }
        keep(2);
        int was = x.goods.get(good).weight;
        x.goods.get(good).weight = weight;
        return was;
    }

    private int doPass() {
        if (x.month == 999) {
            return -3;
        }
        keep(3);
        x.passMonth();
        return x.month;
    }

    public int fault() {
        return fault;
    }

    public int stopped() {
        return stopped;
    }

    public int force(int law) {
        if (law != -1 && !in(law, 0, x.laws.size() - 1)) {
            return no(-2);
        }
        int was = x.force;
        x.force = law;
        return yes(was);
    }

    private int told(int answer) {
        return answer < 0 ? no(answer) : yes(answer);
    }

    public int lack(int good) {
        return told(doLack(good));
    }

    public int find(int good) {
        return told(doFind(good));
    }

    public int weigh(int good, int weight) {
        return told(doWeigh(good, weight));
    }

    public int pass() {
        return told(doPass());
    }

    public int undo() {
        if (changes.isEmpty()) {
            return no(-3);
        }
        Change change = changes.pop();
        x.goods = change.ahead.copy().goods;
        x.month = change.ahead.month;
        return yes(change.kind);
    }

    public long figure(int rule, int what) {
        return in(rule, 0, 3) && in(what, 0, 1) ? x.figure(rule, x.force, -1, false)[what].longValueExact() : -1;
    }

    public long turned(int rule, int what) {
        if (!in(rule, 0, 3) || !in(what, 0, 1)) {
            return -1;
        }
        BigInteger[] f = x.figure(rule, x.force, -1, false);
        BigInteger[] g = x.figure(rule, x.force, -1, true);
        return lowest(f[0].multiply(g[0]), f[1].multiply(g[1]))[what].longValueExact();
    }

    public int pension() {
        return x.pension();
    }

    private int[] bestRow;
    private int bestCost;

    public int glad(int n, int what) {
        if (!in(n, 0, 99) || !in(what, 0, x.goods.size())) {
            return -1;
        }
        bestRow = null;
        bestCost = Integer.MAX_VALUE;
        int size = x.goods.size();
        int[] glads = new int[size];
        int[] tops = new int[size];
        for (int i = 0; i < size; i++) {
            glads[i] = x.tells(x.force, "glads", i);
            tops[i] = x.goods.get(i).lacks || x.tells(x.force, "bars", i) == 1 ? 0 : 9;
        }
        tryRows(new int[size], 0, 0, n, glads, tops);
        return bestRow == null ? -1 : what == 0 ? bestCost : bestRow[what - 1];
    }

    private void tryRows(int[] row, int at, int cost, int rest, int[] glads, int[] tops) {
        int canBe = 0;
        for (int i = at; i < row.length; i++) {
            canBe += tops[i] * glads[i];
        }
        if (cost >= bestCost || canBe < rest) {
            return;
        }
        if (at == row.length) {
            bestCost = cost;
            bestRow = row.clone();
            return;
        }
        for (row[at] = 0; row[at] <= tops[at]; row[at]++) {
            tryRows(row, at + 1, cost + row[at] * x.goods.get(at).now, rest - row[at] * glads[at], glads, tops);
        }
        row[at] = 0;
    }

    private List<Integer> bestWay;

    public int round(int place, int i) {
        if (!in(place, 0, 24)) {
            return -1;
        }
        List<Integer> goods = new ArrayList<>();
        for (int g = 0; g < x.goods.size(); g++) {
            if (x.tells(x.force, "counts", g) > 0) {
                goods.add(g);
            }
        }
        bestWay = null;
        bestCost = Integer.MAX_VALUE;
        tryWays(place, 0, new ArrayList<>(), goods);
        return i == -1 ? bestCost : in(i, 0, bestWay.size() - 1) ? bestWay.get(i) : -1;
    }

    private void tryWays(int place, int steps, List<Integer> way, List<Integer> rest) {
        if (rest.isEmpty()) {
            if (steps < bestCost) {
                bestCost = steps;
                bestWay = new ArrayList<>(way);
            }
            return;
        }
        for (int good : rest) {
            int to = x.prices(good).place;
            List<Integer> others = new ArrayList<>(rest);
            others.remove((Integer) good);
            way.add(good);
            tryWays(to, steps + Math.abs(place % 5 - to % 5) + Math.abs(place / 5 - to / 5), way, others);
            way.remove(way.size() - 1);
        }
    }

    private List<Integer> sets(int cost, int glad) {
        List<Integer> all = new ArrayList<>();
        for (int set = 0; set < 1 << x.goods.size(); set++) {
            int costs = 0;
            int glads = 0;
            boolean had = true;
            for (int g = 0; g < x.goods.size(); g++) {
                if ((set & 1 << g) != 0) {
                    costs += x.goods.get(g).now;
                    glads += x.tells(x.force, "glads", g);
                    had = had && !x.goods.get(g).lacks;
                }
            }
            if (had && costs == cost && glads == glad) {
                all.add(set);
            }
        }
        return all;
    }

    public int spent(int cost, int glad, int i) {
        if (!in(cost, 0, 99) || !in(glad, 0, 99)) {
            return -1;
        }
        List<Integer> sets = sets(cost, glad);
        return i == -1 ? sets.size() : in(i, 0, sets.size() - 1) ? sets.get(i) : -1;
    }

    public int ask(int cost, int glad, int what) {
        if (!in(cost, 0, 99) || !in(glad, 0, 99) || !in(what, 0, 1)) {
            return -1;
        }
        List<Integer> sets = sets(cost, glad);
        int[] best = {-1, -1};
        for (int g = x.goods.size() - 1; g >= 0 && !sets.isEmpty(); g--) {
            int bit = 1 << g;
            int with = (int) sets.stream().filter(s -> (s & bit) != 0).count();
            int without = (int) sets.stream().filter(s -> (s & bit) == 0).count();
            if (best[0] == -1 || Math.max(with, without) <= best[1]) {
                best = new int[] {g, Math.max(with, without)};
            }
        }
        return best[what];
    }

    public int fair(int good, int what) {
        if (!x.has(good) || !in(what, 0, 1)) {
            return -1;
        }
        int[] best = {-1, 1000};
        for (int w = 9; w >= 0; w--) {
            int off = 0;
            for (int p = 0; p < x.people; p++) {
                off += Math.abs(w - x.own[p][good]);
            }
            if (off <= best[1]) {
                best = new int[] {w, off};
            }
        }
        return best[what];
    }

    public int hear(int figure) {
        if (!in(figure, 0, 999)) {
            return no(-1);
        }
        if (x.heard.size() == 12) {
            return no(-5);
        }
        x.heard.add(figure);
        return yes(x.heard.size());
    }

    public int forget() {
        int was = x.heard.size();
        x.heard.clear();
        return was;
    }

    public int trend(int what) {
        int n = x.heard.size();
        if (n < 2 || !in(what, 0, 3)) {
            return -100000;
        }
        // By what is off from the means, all n times: months n*i - sum, figures n*y - sum.
        long months = (long) n * (n - 1) / 2;
        long figures = x.heard.stream().mapToLong(h -> h).sum();
        BigInteger above = BigInteger.ZERO;
        BigInteger below = BigInteger.ZERO;
        for (int i = 0; i < n; i++) {
            long dx = (long) n * i - months;
            long dy = (long) n * x.heard.get(i) - figures;
            above = above.add(big(dx * dy));
            below = below.add(big(dx * dx));
        }
        BigInteger[] rise = lowest(above, below);
        BigInteger[] start = lowest(big(figures).multiply(rise[1]).subtract(rise[0].multiply(big(months))),
                rise[1].multiply(big(n)));
        return (what < 2 ? rise : start)[what % 2].intValueExact();
    }

    public int does(int good) {
        return x.has(good) ? x.times(1000, x.force, -1) - x.times(1000, x.force, good) : -100000;
    }

    public int compare(int law) {
        return law == -1 || in(law, 0, x.laws.size() - 1) ? x.times(1000, law, -1) : -1;
    }

    public long gets(int good, int n) {
        if (!x.has(good) || !in(n, 0, 60)) {
            return -1;
        }
        long[] parts = new long[13];
        parts[x.goods.get(good).now] = 1000000000000L;
        for (int month = 0; month < n; month++) {
            long[] then = new long[13];
            then[12] = parts[12];
            for (int now = 1; now < 12; now++) {
                then[now + 1] += parts[now] * x.rises / 10;
                then[now] += parts[now] * (10 - x.rises) / 10;
            }
            parts = then;
        }
        return parts[12];
    }

    public int years(int seed, int n) {
        if (!in(seed, 0, 1000000) || !in(n, 1, 60)) {
            return no(-1);
        }
        if (x.goods.isEmpty()) {
            return no(-3);
        }
        years = x.copy();
        BigInteger s = big(seed);
        int greatest = 0;
        for (int month = 0; month < n; month++) {
            if (years.month == 999) {
                break;
            }
            s = s.multiply(big(1103)).add(big(12345)).mod(big(1000003));
            Good g = years.goods.get(s.mod(big(years.goods.size())).intValue());
            s = s.multiply(big(1103)).add(big(12345)).mod(big(1000003));
            int what = s.mod(big(4)).intValue();
            if (what < 2) {
                g.lacks = what == 0;
            } else {
                g.now = Math.max(1, Math.min(12, what == 2 ? g.now + 1 : g.now - 1));
            }
            years.passMonth();
            greatest = Math.max(greatest, years.pension());
        }
        return yes(greatest);
    }

    public int drawn(int good, int what) {
        if (!years.has(good) || !in(what, 0, 1)) {
            return -1;
        }
        return what == 0 ? years.goods.get(good).now : years.goods.get(good).lacks ? 1 : 0;
    }

    public int image(int k) {
        if (!in(k, 0, 1)) {
            return no(-1);
        }
        images[k] = x.copy();
        return yes(0);
    }

    public int back(int k) {
        if (!in(k, 0, 1)) {
            return no(-1);
        }
        if (images[k] == null) {
            return no(-2);
        }
        x = images[k].copy();
        changes.clear();
        return yes(0);
    }

    public int count(int what) {
        int[] all = {x.goods.size(), x.lacking(), x.people, x.heard.size(), x.laws.size(), changes.size(), tape.size(),
            refused[1], refused[2], refused[3], refused[5], refused[6], x.force, x.month, x.rises, x.mood};
        return in(what, 0, 15) ? all[what] : -1;
    }

    public int status() {
        return status;
    }
}
