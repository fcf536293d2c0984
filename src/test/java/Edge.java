import java.io.IOException;
import java.nio.file.Files;
import java.nio.file.Path;
import java.util.ArrayList;
import java.util.List;

/**
 * Tests of single sentences of the document: each names the sentence that it holds the class to; and where a call is
 * REFUSED, or answers that there is none, all else must be as it was.
 */
final class Edge {
    interface Scene {
        void set(GladBasket b);
    }

    interface Call {
        long on(GladBasket b);
    }

    interface Look {
        void at(GladBasket b, List<String> seen);
    }

    static final int[] BY = {-1, -2, -3, -5, -6};
    static final int MIN = Integer.MIN_VALUE;
    static final int MAX = Integer.MAX_VALUE;
    static final Scene EMPTY = b -> { };
    static final Scene MIDDLE = Edge::middle;
    static final Scene FULL = Edge::full;
    static final Scene[] SCENES = {EMPTY, MIDDLE, FULL};
    private static final String[] SCENE_NAMES = {"an empty basket", "a basket in use", "a full basket"};
    private static final Look[] LOOKS = {
        Edge::face, Edge::undoing, Edge::goingBack, Edge::tapeAsLaw, Edge::tapeAsOrders, Edge::tapeAsRow, Edge::laws,
        Edge::owns, Edge::people
    };

    private final Due due;
    private final String document;
    private String sentence = "";
    private int promise = 0;

    Edge(String name) throws IOException {
        due = new Due(name);
        document = oneLine(theDocument());
    }

    /** Empty, if it is not where the tests are run: the class is tested all the same. */
    static String theDocument() throws IOException {
        Path path = Path.of("../shared/DOC.md");
        return Files.exists(path) ? Files.readString(path) : "";
    }

    /** A sentence that has been changed wants another look, but tells nothing of the class: it is no failure. */
    private void notice(boolean stands, String words) {
        if (!stands && !document.isEmpty()) {
            System.out.println("the document does not say (any more): " + words);
        }
    }

    private static String oneLine(String text) {
        return text.replaceAll("\\s+", " ");
    }

    // ---- What is held to

    /** The sentence of Terms that what follows holds the class to. */
    void says(String words) {
        sentence = words;
        promise = 0;
        notice(document.contains(oneLine(words)), words);
    }

    /** The same of a promise: the words stand in its section. */
    void promises(int number, String words) {
        int from = document.indexOf("## Promise " + number + ":");
        int to = document.indexOf("## ", from + 3);
        sentence = words;
        promise = number;
        notice(from >= 0 && to > from && document.substring(from, to).contains(oneLine(words)), words);
    }

    void is(String what, long got, long want) {
        due.is(promise, "(" + sentence + ") " + what, got, want);
    }

    void holds(String what, boolean so) {
        due.holds("(" + sentence + ") " + what, so);
    }

    void finish() {
        due.finish();
    }

    // ---- Calls that are REFUSED, and those that answer NONE or NOTHING

    /** REFUSED in each scene, and nothing else has changed. */
    void refusedEverywhere(String what, int by, Call call) {
        for (Scene scene : SCENES) {
            refused(what, scene, by, call);
        }
    }

    void refused(String what, Scene scene, int by, Call call) {
        refusedBut(what, scene, by, call, b -> 0);
    }

    /** REFUSED; what the call does all the same is what another call does: all else is as behind that one. */
    void refusedBut(String what, Scene scene, int by, Call call, Call likewise, String... told) {
        String where = what + " on " + nameOf(scene);
        GladBasket twin = made(scene);
        GladBasket b = made(scene);
        is(where, call.on(b), by);
        is("status() behind " + where, b.status(), by);
        for (int i = 0; i < BY.length; i++) {
            is("count(" + (7 + i) + ") behind " + where, b.count(7 + i), twin.count(7 + i) + (BY[i] == by ? 1 : 0));
        }
        alike(where, scene, call, likewise, LOOKS, told);
    }

    /** An answer that is no refusal: not even status() and the counts of refusals have changed. */
    void leavesAll(String what, long answer, Call call) {
        for (Scene scene : SCENES) {
            leavesAll(what, scene, answer, call);
        }
    }

    void leavesAll(String what, Scene scene, long answer, Call call) {
        String where = what + " on " + nameOf(scene);
        is(where, call.on(made(scene)), answer);
        alike(where, scene, call, b -> 0, LOOKS);
        alike(where, scene, call, b -> 0, new Look[] {Edge::refusals});
    }

    /** A call that is not REFUSED: status() tells so, and no count of refusals has grown. */
    void granted(String what, GladBasket b, Call call, long answer) {
        int[] ahead = new int[BY.length];
        for (int i = 0; i < BY.length; i++) {
            ahead[i] = b.count(7 + i);
        }
        is(what, call.on(b), answer);
        is("status() behind " + what, b.status(), 0);
        for (int i = 0; i < BY.length; i++) {
            is("count(" + (7 + i) + ") behind " + what, b.count(7 + i), ahead[i]);
        }
    }

    /** Behind the one call all looks see what they see behind the other, but for what is told aside. */
    void alike(String what, Scene scene, Call one, Call other, Look[] looks, String... aside) {
        for (Look look : looks) {
            List<String> seen = new ArrayList<>();
            List<String> wanted = new ArrayList<>();
            GladBasket b = made(scene);
            one.on(b);
            look.at(b, seen);
            b = made(scene);
            other.on(b);
            look.at(b, wanted);
            for (int i = 0; i < seen.size(); i++) {
                if (!seen.get(i).equals(wanted.get(i)) && !List.of(aside).contains(seen.get(i).replaceAll(" is .*", ""))) {
                    holds("behind " + what + " " + seen.get(i) + ", due is " + wanted.get(i), false);
                }
            }
            holds("something was looked at", seen.size() == wanted.size() && !seen.isEmpty());
        }
    }

    static Look[] allLooks() {
        return LOOKS.clone();
    }

    // ---- Scenes: each leaves room for some 380 calls more, for 512 are promised

    static GladBasket made(Scene scene) {
        GladBasket b = new GladBasket();
        scene.set(b);
        return b;
    }

    private static String nameOf(Scene scene) {
        for (int i = 0; i < SCENES.length; i++) {
            if (SCENES[i] == scene) {
                return SCENE_NAMES[i];
            }
        }
        return "a basket as set";
    }

    /** Some of each, and of what has been: a FAULT, COMMAS, ORDERS that stopped, YEARS, changes, a TAPE. */
    private static void middle(GladBasket b) {
        b.good(2, 4, 3, 5, 0);
        b.good(3, 6, 2, 1, 24);
        b.good(6, 3, 1, 9, 4);
        b.good(5, 8, 7, 2, 12);
        b.stand(0, 2);
        b.stand(3, 1);
        b.person();
        b.person();
        b.own(0, 0, 9);
        b.own(1, 0, 2);
        b.own(1, 3, 4);
        b.hear(10);
        b.hear(13);
        b.hear(19);
        b.terms(0, 40);
        b.terms(1, 7);
        b.terms(2, 5);
        Due.enforce(b, "counts weight+mood if good<3;moves 1-good;glads glad+1 if now>3;bars if good=1");
        Due.law(b, "counts 5;moves 2");
        b.image(0);
        b.feed(0x02030405, 0x01000000, 0, 0, 0);
        b.end(5);
        b.row();
        Due.orders(b, "pass;lack 9");
        Due.law(b, "bars 1");
        b.years(5, 7);
        b.lack(0);
        b.weigh(1, 50);
        b.pass();
        b.lack(3);
        b.find(3);
        Due.type(b, "lack 2;weigh 1 by 9;pass");
    }

    /** As much of all as can be. */
    private static void full(GladBasket b) {
        for (int good = 0; good < 8; good++) {
            b.good(good + 1, 12 - good, 10 + good, good + 1, 3 * good);
        }
        b.stand(0, 7);
        b.stand(4, 5);
        for (int person = 0; person < 5; person++) {
            b.person();
            b.own(person, person + 1, 9 - person);
        }
        for (int i = 0; i < 12; i++) {
            b.hear(i * i);
        }
        b.terms(0, 997);
        b.terms(1, 10);
        b.terms(2, 9);
        for (int law = 0; law < 6; law++) {
            Due.law(b, "counts " + law + ";moves good-3");
        }
        b.force(5);
        b.image(0);
        b.years(7, 2);
        b.image(1);
        b.pass();
        b.pass();
        for (int i = 0; i < 12; i++) {
            b.weigh(i % 8, i);
        }
        b.lack(1);
        b.lack(4);
        b.find(1);
        Due.type(b, "weigh 1 by 9;find 4" + " ".repeat(381));
    }

    // ---- Looks: all that calls can tell of a basket

    private static void see(List<String> seen, String call, long answer) {
        seen.add(call + " is " + answer);
    }

    private static void face(GladBasket b, List<String> seen) {
        brief(b, seen);
        for (int good = 0; good < 8; good++) {
            see(seen, "gets(" + good + ", 9)", b.gets(good, 9));
            see(seen, "does(" + good + ")", b.does(good));
            for (int what = 0; what < 2; what++) {
                see(seen, "fair(" + good + ", " + what + ")", b.fair(good, what));
                see(seen, "drawn(" + good + ", " + what + ")", b.drawn(good, what));
            }
        }
        for (int i = 0; i < 4; i++) {
            see(seen, "trend(" + i + ")", b.trend(i));
            see(seen, "figure(" + i + ", 0)", b.figure(i, 0));
            see(seen, "figure(" + i + ", 1)", b.figure(i, 1));
            see(seen, "turned(" + i + ", 0)", b.turned(i, 0));
            see(seen, "turned(" + i + ", 1)", b.turned(i, 1));
        }
        for (int i = -1; i < 8; i++) {
            see(seen, "round(12, " + i + ")", b.round(12, i));
            see(seen, "glad(20, " + (i + 1) + ")", b.glad(20, i + 1));
            see(seen, "spent(10, 9, " + i + ")", b.spent(10, 9, i));
        }
        see(seen, "ask(10, 9, 0)", b.ask(10, 9, 0));
        see(seen, "ask(10, 9, 1)", b.ask(10, 9, 1));
    }

    private static void brief(GladBasket b, List<String> seen) {
        for (int good = 0; good < 8; good++) {
            for (int what = 0; what < 7; what++) {
                see(seen, "of(" + good + ", " + what + ")", b.of(good, what));
            }
            for (int what = 0; what < 4; what++) {
                see(seen, "asks(" + good + ", " + what + ")", b.asks(good, what));
            }
        }
        for (int what = 0; what < 16; what++) {
            if (what < 7 || what > 11) {
                see(seen, "count(" + what + ")", b.count(what));
            }
        }
        for (int law = -1; law < 6; law++) {
            see(seen, "compare(" + law + ")", b.compare(law));
        }
        see(seen, "pension()", b.pension());
        see(seen, "fault()", b.fault());
        see(seen, "stopped()", b.stopped());
        see(seen, "commas()", b.commas());
    }

    private static void undoing(GladBasket b, List<String> seen) {
        for (int times = 0; times < 17; times++) {
            see(seen, "undo() " + times, b.undo());
            see(seen, "count(1) behind undo() " + times, b.count(1));
            see(seen, "count(13) behind undo() " + times, b.count(13));
            for (int good = 0; good < 5; good++) {
                see(seen, "NOW of " + good + " behind undo() " + times, b.of(good, 1));
                see(seen, "WEIGHT of " + good + " behind undo() " + times, b.of(good, 2));
            }
        }
    }

    private static void goingBack(GladBasket b, List<String> seen) {
        for (int k = 0; k < 2; k++) {
            see(seen, "back(" + k + ")", b.back(k));
            brief(b, seen);
        }
    }

    private static void tapeAsLaw(GladBasket b, List<String> seen) {
        see(seen, "law()", b.law());
        brief(b, seen);
    }

    private static void tapeAsOrders(GladBasket b, List<String> seen) {
        see(seen, "orders()", b.orders());
        brief(b, seen);
    }

    private static void tapeAsRow(GladBasket b, List<String> seen) {
        see(seen, "row()", b.row());
        brief(b, seen);
    }

    private static void laws(GladBasket b, List<String> seen) {
        for (int law = -1; law < 6; law++) {
            see(seen, "force(" + law + ")", b.force(law));
            for (int good = 0; good < 8; good++) {
                for (int what = 0; what < 4; what++) {
                    see(seen, "asks(" + good + ", " + what + ") by law " + law, b.asks(good, what));
                }
            }
        }
    }

    private static void owns(GladBasket b, List<String> seen) {
        for (int person = 0; person < 5; person++) {
            for (int good = 0; good < 8; good++) {
                see(seen, "own(" + person + ", " + good + ", 1)", b.own(person, good, 1));
            }
        }
    }

    private static void people(GladBasket b, List<String> seen) {
        see(seen, "person()", b.person());
        see(seen, "good()", b.good(1, 2, 3, 4, 5));
        see(seen, "hear()", b.hear(500));
        see(seen, "forget()", b.forget());
        see(seen, "count(2)", b.count(2));
    }

    private static void refusals(GladBasket b, List<String> seen) {
        see(seen, "status()", b.status());
        for (int i = 0; i < BY.length; i++) {
            see(seen, "count(" + (7 + i) + ")", b.count(7 + i));
        }
    }
}
