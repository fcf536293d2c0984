import java.util.ArrayDeque;
import java.util.ArrayList;
import java.util.Deque;
import java.util.HashMap;
import java.util.HashSet;
import java.util.List;
import java.util.Map;
import java.util.Random;
import java.util.Set;

/**
 * Promises 13 to 15: FAULT, found in another way than by a parser: all that the languages let stand is followed at once,
 * TOKEN by TOKEN, and FAULT is where nothing is left of it.
 */
public final class FaultsTest {
    private static final Due due = new Due("FaultsTest");
    private static final String[] BOTH = {
        "TEXT: CLAUSE MORE", "MORE: | ; another CLAUSE MORE", "IF: | if TEST", "TEST: BOTH OR", "OR: | or BOTH OR",
        "BOTH: PLAIN AND", "AND: | and PLAIN AND", "PLAIN: not PLAIN | open( TEST close) | SUM SIGN SUM",
        "SIGN: < | > | =", "SUM: TERM ADD", "ADD: | + TERM ADD | - TERM ADD", "TERM: PART TIMES",
        "TIMES: | * PART TIMES | / PART TIMES | % PART TIMES"};
    private static final String[] LAWS = {
        "CLAUSE: moves SUM IF | counts SUM IF | glads SUM IF | bars IF",
        "PART: part#1000 | open[ SUM close] | part:good | part:base | part:now | part:weight | part:glad | part:lacks "
            + "| part:place | part:month | part:mood"};
    private static final String[] ORDERS = {
        "CLAUSE: VERB OFTEN IF", "VERB: lack SUM | find SUM | weigh SUM by SUM | pass", "OFTEN: | times times#20",
        "PART: part#1000 | open[ SUM close] | part:month | part:done | part:latest | part:figure | part:lacking "
            + "| part:now good#7 | part:weight good#7"};
    private static final String[] SPICE = ("if or and not by times ( ) [ ] + - * / % < > = ; 7 8 0 20 21 0020 1000 1001 "
            + "99999999999999999999 lack find weigh pass moves counts glads bars now weight month done latest figure "
            + "lacking good base glad lacks place mood A x _").split(" ");

    /** What must still come, the next first. */
    private record Rest(String next, Rest behind) {
    }

    private record Way(Rest still, int clauses, int parts, int depth) {
    }

    private record Token(String text, int place) {
    }

    public static void main(String[] args) {
        int texts = args.length > 0 ? Integer.parseInt(args[0]) : 6000;
        Map<String, List<String[]>> laws = grammar(LAWS);
        Map<String, List<String[]>> orders = grammar(ORDERS);
        Random random = new Random(7);
        for (int i = 0; i < texts; i++) {
            look(laws, false, draw(laws, random));
            look(orders, true, draw(orders, random));
        }
        for (int many = 11; many <= 13; many++) {
            look(laws, false, "bars; ".repeat(many - 1) + "bars");
            look(laws, false, "bars;".repeat(many) + "  ");
            look(orders, true, "pass; ".repeat(many - 1) + "pass");
        }
        for (int many = 49; many <= 52; many++) {
            look(laws, false, "moves " + "1+".repeat(many - 1) + "now");
            look(orders, true, "lack " + "1+".repeat(many - 1) + "now 3");
            look(orders, true, "lack " + "1+".repeat(many - 1) + "now 8");
        }
        for (int round = 0; round <= 9; round++) {
            for (int square = 0; square <= 9; square++) {
                String test = "(".repeat(round) + "[".repeat(square) + "1" + "]".repeat(square) + "=1" + ")".repeat(round);
                look(laws, false, "bars if " + test);
                look(orders, true, "pass if not " + test + " and 1 = " + "[".repeat(square) + "2");
            }
        }
        due.finish();
    }

    private static Map<String, List<String[]>> grammar(String[] own) {
        Map<String, List<String[]>> rules = new HashMap<>();
        for (String[] each : new String[][] {BOTH, own}) {
            for (String rule : each) {
                int colon = rule.indexOf(':');
                List<String[]> choices = new ArrayList<>();
                // A sign by itself is never "|", so this parts choices alone.
                for (String choice : rule.substring(colon + 1).split("\\|", -1)) {
                    choices.add(choice.isBlank() ? new String[0] : choice.trim().split(" +"));
                }
                rules.put(rule.substring(0, colon), choices);
            }
        }
        return rules;
    }

    private static void look(Map<String, List<String[]>> rules, boolean asOrders, String whole) {
        String text = whole.length() > 400 ? whole.substring(0, 400) : whole;
        GladBasket basket = new GladBasket();
        Due.type(basket, text);
        int want = fault(rules, text);
        int answer = asOrders ? basket.orders() : basket.law();
        due.is(15, "fault() of \"" + text + "\"", basket.fault(), want);
        due.is(asOrders ? 14 : 13, "\"" + text + "\" is a TEXT", answer == -6 ? 0 : 1, want == -1 ? 1 : 0);
        due.is(41, "count(6) behind it", basket.count(6), 0);
    }

    private static int fault(Map<String, List<String[]>> rules, String text) {
        Set<Way> ways = open(rules, Set.of(new Way(new Rest("TEXT", null), 1, 0, 0)));
        for (Token token : tokens(text)) {
            Set<Way> left = new HashSet<>();
            for (Way way : ways) {
                Way next = way.still == null ? null : take(way, token.text);
                if (next != null) {
                    left.add(next);
                }
            }
            if (left.isEmpty()) {
                return token.place;
            }
            ways = open(rules, left);
        }
        for (Way way : ways) {
            if (way.still == null) {
                return -1;
            }
        }
        return text.length();
    }

    /** All ways on, until each has a TOKEN next or nothing. */
    private static Set<Way> open(Map<String, List<String[]>> rules, Set<Way> from) {
        Set<Way> found = new HashSet<>();
        Deque<Way> todo = new ArrayDeque<>(from);
        while (!todo.isEmpty()) {
            Way way = todo.pop();
            if (way.still != null && way.still.next.equals("another")) {
                if (way.clauses < 12) {
                    todo.push(new Way(way.still.behind, way.clauses + 1, way.parts, way.depth));
                }
            } else if (way.still != null && rules.containsKey(way.still.next)) {
                for (String[] choice : rules.get(way.still.next)) {
                    Rest still = way.still.behind;
                    for (int i = choice.length - 1; i >= 0; i--) {
                        still = new Rest(choice[i], still);
                    }
                    todo.push(new Way(still, way.clauses, way.parts, way.depth));
                }
            } else {
                found.add(way);
            }
        }
        return found;
    }

    /** The way behind this TOKEN; null, if it can't come next. */
    private static Way take(Way way, String token) {
        String next = way.still.next;
        int parts = way.parts;
        int depth = way.depth;
        boolean fits;
        if (next.contains("#")) {
            int low = next.startsWith("times") ? 1 : 0;
            fits = numberIn(token, low, Integer.parseInt(next.substring(next.indexOf('#') + 1)));
        } else {
            fits = token.equals(next.replaceAll("^(part:|open|close)(?=.)", ""));
        }
        if (next.startsWith("part")) {
            parts++;
        } else if (next.startsWith("open")) {
            depth++;
        } else if (next.startsWith("close")) {
            depth--;
        }
        return fits && parts <= 50 && depth <= 8 ? new Way(way.still.behind, way.clauses, parts, depth) : null;
    }

    private static boolean numberIn(String token, int low, int high) {
        String digits = token.replaceAll("^0+(?=[0-9])", "");
        return digits.matches("[0-9]{1,9}") && Integer.parseInt(digits) >= low && Integer.parseInt(digits) <= high;
    }

    private static List<Token> tokens(String text) {
        List<Token> tokens = new ArrayList<>();
        java.util.regex.Matcher each = java.util.regex.Pattern.compile("(?s)[a-z]+|[0-9]+|[^ ]").matcher(text);
        while (each.find()) {
            tokens.add(new Token(each.group(), each.start()));
        }
        return tokens;
    }

    /** A TEXT that the languages let stand, with none, one or two TOKENS wrong. */
    private static String draw(Map<String, List<String[]>> rules, Random random) {
        List<String> row = new ArrayList<>();
        grow(rules, "TEXT", random, row, 0);
        for (int wrong = random.nextInt(3); wrong > 0 && !row.isEmpty(); wrong--) {
            int at = random.nextInt(row.size());
            switch (random.nextInt(5)) {
                case 0 -> row.remove(at);
                case 1 -> row.subList(at, row.size()).clear();
                case 2 -> row.add(at, SPICE[random.nextInt(SPICE.length)]);
                case 3 -> row.set(at, SPICE[random.nextInt(SPICE.length)]);
                default -> row.add(at, row.get(random.nextInt(row.size())));
            }
        }
        StringBuilder text = new StringBuilder();
        for (String token : row) {
            text.append(random.nextInt(6) == 0 ? "  " : random.nextInt(3) == 0 ? "" : " ").append(token);
        }
        return text.append(" ".repeat(random.nextInt(3))).toString();
    }

    private static void grow(Map<String, List<String[]>> rules, String sign, Random random, List<String> row, int deep) {
        if (rules.containsKey(sign)) {
            List<String[]> choices = rules.get(sign);
            // Deep down the first choice is taken, which of PART and of what follows ends soonest.
            boolean ends = deep > 40 || row.size() > 90;
            int choice = ends ? sign.equals("PLAIN") ? 2 : 0 : random.nextInt(choices.size());
            for (String each : choices.get(choice)) {
                grow(rules, each, random, row, deep + 1);
            }
        } else if (sign.contains("#")) {
            row.add(String.valueOf(random.nextInt(sign.startsWith("good") ? 8 : 20) + (sign.startsWith("times") ? 1 : 0)));
        } else if (!sign.equals("another")) {
            row.add(sign.replaceAll("^(part:|open|close)(?=.)", ""));
        }
    }
}
