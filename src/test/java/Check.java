import java.nio.charset.StandardCharsets;

/** What the tests share: answers that are due, and TEXTS put on the TAPE. */
final class Check {
    private static int wrong = 0;
    private static int asked = 0;
    private static final boolean[] PROMISES = new boolean[41];

    private Check() {
    }

    static void due(String call, long got, long want) {
        asked++;
        note(call);
        if (got != want) {
            wrong++;
            if (wrong <= 40) {
                System.out.println(call + " answered " + got + ", due is " + want);
            }
        }
    }

    /** A call told as "n: .." asks for promise n. */
    private static void note(String call) {
        int colon = call.indexOf(':');
        if (colon > 0 && colon < 3 && call.substring(0, colon).chars().allMatch(Character::isDigit)) {
            PROMISES[Math.min(40, Integer.parseInt(call.substring(0, colon)))] = true;
        }
    }

    /** Each promise must have been asked for by now. */
    static void allPromises() {
        for (int n = 1; n <= 40; n++) {
            holds("promise " + n + " has a test", PROMISES[n]);
        }
    }

    static void holds(String what, boolean so) {
        due(what, so ? 1 : 0, 1);
    }

    /** Puts the text on the TAPE, which must be empty. */
    static void type(GiftDuel x, String text) {
        typeBytes(x, text.getBytes(StandardCharsets.ISO_8859_1));
    }

    static void typeBytes(GiftDuel x, byte[] bytes) {
        for (int from = 0; from < bytes.length; from += 20) {
            x.feed(four(bytes, from), four(bytes, from + 4), four(bytes, from + 8),
                    four(bytes, from + 12), four(bytes, from + 16));
        }
        x.end(bytes.length);
    }

    static int four(byte[] bytes, int from) {
        int sum = 0;
        for (int i = 0; i < 4; i++) {
            sum = sum << 8 | (from + i < bytes.length ? bytes[from + i] & 255 : 32);
        }
        return sum;
    }

    static int law(GiftDuel x, String text) {
        type(x, text);
        return x.law();
    }

    static int orders(GiftDuel x, String text) {
        type(x, text);
        return x.orders();
    }

    /** A LAW that is in FORCE at once. */
    static void rule(GiftDuel x, String text) {
        int law = law(x, text);
        holds("the law '" + text + "' is read", law >= 0);
        x.force(law);
    }

    static void finish(String name) {
        System.out.println(name + ": " + asked + " answers, " + wrong + " not as due");
        if (wrong != 0) {
            System.exit(1);
        }
    }
}
