/** Compares answers with those that are due, by promise, and ends the test's run with its exit code. */
final class Due {
    private final String name;
    private int asked = 0;
    private int wrong = 0;

    Due(String name) {
        this.name = name;
    }

    void is(int promise, String call, long got, long want) {
        asked++;
        if (got != want) {
            wrong++;
            System.out.println("promise " + promise + ": " + call + " answered " + got + ", due is " + want);
        }
    }

    void holds(String what, boolean so) {
        asked++;
        if (!so) {
            wrong++;
            System.out.println("not so: " + what);
        }
    }

    /** Puts a text on an empty TAPE. */
    static void type(GladBasket basket, String text) {
        byte[] bytes = new byte[(text.length() + 19) / 20 * 20];
        for (int i = 0; i < text.length(); i++) {
            bytes[i] = (byte) text.charAt(i);
        }
        for (int at = 0; at < bytes.length; at += 20) {
            basket.feed(word(bytes, at), word(bytes, at + 4), word(bytes, at + 8), word(bytes, at + 12),
                    word(bytes, at + 16));
        }
        if (basket.end(text.length()) != text.length()) {
            throw new IllegalStateException("the text does not fit: " + text);
        }
    }

    private static int word(byte[] bytes, int at) {
        return (bytes[at] & 255) << 24 | (bytes[at + 1] & 255) << 16 | (bytes[at + 2] & 255) << 8
                | bytes[at + 3] & 255;
    }

    static int law(GladBasket basket, String text) {
        type(basket, text);
        return basket.law();
    }

    static int orders(GladBasket basket, String text) {
        type(basket, text);
        return basket.orders();
    }

    /** A LAW that must stand, put in FORCE. */
    static void enforce(GladBasket basket, String text) {
        int law = law(basket, text);
        if (law < 0) {
            throw new IllegalStateException(text + ": FAULT at " + basket.fault());
        }
        basket.force(law);
    }

    void finish() {
        System.out.println(name + ": " + asked + " answers, " + wrong + " wrong");
        if (wrong != 0 || asked == 0) {
            System.exit(1);
        }
    }
}
