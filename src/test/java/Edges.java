/** What the tests of boundary cases share: halls, calls that are REFUSED, and all that can be seen of an object. */
final class Edges {
    interface Call {
        int on(GiftDuel x);
    }

    interface NumberCall {
        int on(GiftDuel x, int number);
    }

    private static final int[] FAR = {Integer.MIN_VALUE, Integer.MIN_VALUE + 1, -1000000, 1000000000, Integer.MAX_VALUE};

    private Edges() {
    }

    static void due(String call, long got, long want) {
        Check.due(call, got, want);
    }

    /** So many LORDS of 100 GRAIN each, without HARVEST. */
    static GiftDuel hall(int lords) {
        GiftDuel x = new GiftDuel();
        for (int i = 0; i < lords; i++) {
            x.lord(100, 0);
        }
        return x;
    }

    /** LORDS as in hall(); each holds one GOOD of BASE 10 and KEEP 0. */
    static GiftDuel halls(int lords) {
        GiftDuel x = hall(lords);
        for (int i = 0; i < lords; i++) {
            x.good(i, 10, 0);
        }
        return x;
    }

    /** Where count() tells how many calls were REFUSED by that. */
    private static int placeOf(int by) {
        return by >= -3 ? 7 - by : 6 - by;
    }

    /** The call is REFUSED by just that; it is counted, status() tells it, and nothing else is changed. */
    static void refused(String what, GiftDuel x, int by, Call call) {
        String ahead = seen(x);
        int[] counts = new int[5];
        for (int i = 0; i < 5; i++) {
            counts[i] = x.count(8 + i);
        }
        due(what + " is REFUSED", call.on(x), by);
        due(what + ": status", x.status(), by);
        for (int i = 0; i < 5; i++) {
            due(what + ": count(" + (8 + i) + ")", x.count(8 + i), counts[i] + (8 + i == placeOf(by) ? 1 : 0));
        }
        Check.holds(what + " changes nothing", ahead.equals(seen(x)));
    }

    /** The call answers NONE, which is no refusal: nothing is counted, status() stays, nothing is changed. */
    static void none(String what, GiftDuel x, Call call) {
        unchanged(what, x, -1, call);
    }

    /** A question, or a call that answers NONE: nothing is another than it was, count() and status(), too. */
    static void unchanged(String what, GiftDuel x, int want, Call call) {
        String ahead = counted(x) + seen(x);
        due(what, call.on(x), want);
        Check.holds(what + " changes nothing", ahead.equals(counted(x) + seen(x)));
    }

    /** From least to most the number can be, at both ends, too; beside them and far off it is REFUSED by that. */
    static void bounds(String what, int least, int most, int by, Call fresh, NumberCall call) {
        for (int number : new int[] {least, least + 1, most - 1, most}) {
            if (number >= least && number <= most) {
                GiftDuel x = made(fresh);
                Check.holds(what + " " + number + " can be", call.on(x, number) >= -1 && x.status() == 0);
            }
        }
        GiftDuel x = made(fresh);
        refused(what + " " + (least - 1), x, by, y -> call.on(y, least - 1));
        refused(what + " " + (most + 1), x, by, y -> call.on(y, most + 1));
        for (int number : FAR) {
            refused(what + " " + number, x, by, y -> call.on(y, number));
        }
    }

    /** Numbers from least to most are answered by no NONE; beside them and far off they are. */
    static void asked(String what, int least, int most, GiftDuel x, NumberCall call) {
        for (int number = least; number <= most; number++) {
            Check.holds(what + " " + number + " is answered", call.on(x, number) != -1);
        }
        none(what + " " + (least - 1), x, y -> call.on(y, least - 1));
        none(what + " " + (most + 1), x, y -> call.on(y, most + 1));
        for (int number : FAR) {
            none(what + " " + number, x, y -> call.on(y, number));
        }
    }

    private static GiftDuel made(Call fresh) {
        GiftDuel x = new GiftDuel();
        fresh.on(x);
        return x;
    }

    private static String counted(GiftDuel x) {
        StringBuilder all = new StringBuilder();
        for (int what = 8; what <= 12; what++) {
            all.append(x.count(what)).append(' ');
        }
        return all.append(x.status()).append(" | ").toString();
    }

    /** All that can be asked, refusals and SHELVES aside. */
    static String seen(GiftDuel x) {
        StringBuilder all = new StringBuilder();
        for (int what : new int[] {0, 1, 2, 3, 4, 5, 6, 7, 13, 14, 15, 16}) {
            all.append(x.count(what)).append(' ');
        }
        all.append(x.fault()).append(' ').append(x.stopped()).append(' ').append(x.dross()).append(" ; ");
        for (int lord = 0; lord < x.count(0); lord++) {
            seenOfLord(x, lord, all);
        }
        for (int good = 0; good < x.count(1); good++) {
            for (int what = 0; what <= 5; what++) {
                all.append(x.at(good, what)).append(' ');
            }
            for (int to = 0; to < x.count(0); to++) {
                all.append(x.asks(good, to, 0)).append(' ').append(x.asks(good, to, 1)).append(' ');
            }
            for (int herald = -1; herald < x.count(2); herald++) {
                all.append(x.tells(herald, good)).append(' ');
            }
            all.append("; ");
        }
        return all.append(x.found(0, 0)).append(' ').append(x.ring(-1)).toString();
    }

    private static void seenOfLord(GiftDuel x, int lord, StringBuilder all) {
        for (int what = 0; what <= 7; what++) {
            all.append(x.of(lord, what)).append(' ').append(x.drawn(lord, what)).append(' ');
        }
        for (int other = 0; other < x.count(0); other++) {
            all.append(x.debt(lord, other, 0)).append(' ').append(x.debt(lord, other, 1)).append(' ');
            for (int what = 0; what <= 8; what++) {
                all.append(x.way(lord, other, what)).append(' ');
            }
        }
        all.append("; ");
    }
}
