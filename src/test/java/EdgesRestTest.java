/** Terms IV, and promises 1 to 12, 16, 35 to 40: a test for each boundary case that a sentence of them names. */
public final class EdgesRestTest {
    public static void main(String[] args) {
        newObject();
        ofOfNone();
        atOfNone();
        feedHighestFirst();
        feedOfMore();
        endOfMore();
        rowByThrees();
        rowThatCantBe();
        rowWithinWhichTheTapeEnds();
        rowWithoutRoom();
        rowOfNothing();
        drossOfTheLatest();
        lawAheadOfReading();
        lawOfBlanks();
        faultOfTheLatest();
        forceOfNone();
        generationNumbers();
        generationDraws();
        generationWithoutGoods();
        generationGift();
        generationBeyond999();
        generationOnPaper();
        drawnOfNone();
        drawnOfTheLatest();
        imagesKeepAllBut();
        imagesKeepAllThereCanBe();
        lawsOfImages();
        imagesStay();
        imageOfAnEmptyHall();
        backUndoesNothing();
        countOfNone();
        countRefused();
        statusOfTheLatest();
        Check.finish("EdgesRestTest");
    }

    private static void due(String call, long got, long want) {
        Check.due(call, got, want);
    }

    /** Promise 1: "No LORDS, GOODS": and what else a new object answers. */
    private static void newObject() {
        GiftDuel x = new GiftDuel();
        int[] counts = {0, 0, 0, 0, 0, 0, 0, 0, 0, 0, 0, 0, 0, -1, 0, 1, 0};
        for (int what = 0; what < counts.length; what++) {
            due("count(" + what + ")", x.count(what), counts[what]);
        }
        due("status", x.status(), 0);
        due("fault", x.fault(), -1);
        due("stopped", x.stopped(), -1);
        due("dross", x.dross(), 0);
        due("NONE", GiftDuel.NONE, -1);
        due("of", x.of(0, 0) + x.of(0, 7), -2);
        due("at", x.at(0, 0) + x.at(0, 5), -2);
        due("another one is another", x.lord(1, 1) + new GiftDuel().count(0), 0);
    }

    /** Promise 3: NONE of no such LORD, of another what. */
    private static void ofOfNone() {
        GiftDuel x = Edges.halls(3);
        Edges.asked("of's LORD", 0, 2, x, (y, n) -> y.of(n, 0));
        Edges.asked("of's what", 0, 7, x, (y, n) -> y.of(2, n));
        Edges.none("of no LORD what it COSTS", x, y -> y.of(3, 7));
        Edges.none("of no LORD what it COSTS", x, y -> y.of(-1, 7));
        GiftDuel full = Edges.halls(6);
        Edges.asked("of's LORD of six", 0, 5, full, (y, n) -> y.of(n, 6));
    }

    /** Promise 6: NONE of no such GOOD, of another what. */
    private static void atOfNone() {
        GiftDuel x = Edges.halls(3);
        Edges.asked("at's GOOD", 0, 2, x, (y, n) -> y.at(n, 0));
        Edges.asked("at's what", 0, 5, x, (y, n) -> y.at(2, n));
        Edges.none("at no GOOD what it COSTS", x, y -> y.at(3, 5));
        Edges.none("at no GOOD what it COSTS", x, y -> y.at(-1, 5));
        GiftDuel full = Edges.hall(6);
        for (int i = 0; i < 16; i++) {
            full.good(5, 1, 1);
        }
        Edges.asked("at's GOOD of sixteen", 0, 15, full, (y, n) -> y.at(n, 4));
    }

    /** Promise 8: "Twenty bytes ..., four of each number, the highest first": bytes above 127, numbers below 0, too. */
    private static void feedHighestFirst() {
        GiftDuel x = Edges.hall(6);
        x.feed(0x00010202, 0x03040405, 0x06010708, 0x02090A03, 0x0B0C040D);
        x.feed(0x0E000F10, 0, 0, 0, 0);
        x.end(24);
        due("eight ROWS", x.row(), 8);
        int[] holders = {0, 2, 4, 1, 2, 3, 4, 0};
        for (int i = 0; i < 8; i++) {
            due("HOLDER " + i, x.at(i, 0), holders[i]);
            due("BASE " + i, x.at(i, 2), 2 * i + 1);
            due("KEEP " + i, x.at(i, 3), 2 * i + 2);
        }
        GiftDuel y = Edges.hall(1);
        y.feed(0x00000080, 0x00FF0000, 0x000000FF, 0x80000000, -1);
        y.end(16);
        due("ROWS", y.row(), 2);
        due("128 as KEEP, 255 as BASE, 255 as KEEP, 128 as HOLDER", y.dross(), 4);
        due("0, 0, 0", y.at(0, 2) + y.at(1, 2), 0);
        GiftDuel z = new GiftDuel();
        z.feed(0x20202020, 0x20202020, 0x20202020, 0x20202020, 0xFF202020);
        z.law();
        due("the byte 255 of a number below 0", z.fault(), 16);
    }

    /** Promise 8: "how many it has. NONE, if there would be more than 400": none of the twenty comes then. */
    private static void feedOfMore() {
        GiftDuel x = Edges.hall(2);
        for (int i = 1; i <= 20; i++) {
            due("so many", x.feed(i, i, i, i, i), 20 * i);
        }
        Edges.none("400 and 20", x, y -> y.feed(0, 0, 0, 0, 0));
        due("399", x.end(399), 399);
        Edges.none("399 and 20", x, y -> y.feed(0, 0, 0, 0, 0));
        due("381", x.end(381), 381);
        Edges.none("381 and 20", x, y -> y.feed(0, 0, 0, 0, 0));
        due("380", x.end(380), 380);
        due("380 and 20", x.feed(0, 0, 0, 0, 0), 400);
        due("an odd one", x.end(7), 7);
        due("and 20", x.feed(0, 0, 0, 0, 0), 27);
    }

    /** Promise 9: "NONE, if it has not so many, or n is below 0". */
    private static void endOfMore() {
        GiftDuel x = Edges.hall(2);
        Edges.none("1 of none", x, y -> y.end(1));
        Edges.unchanged("0 of none", x, 0, y -> y.end(0));
        x.feed(0, 0, 0, 0, 0);
        Edges.none("21 of 20", x, y -> y.end(21));
        Edges.none("-1", x, y -> y.end(-1));
        Edges.none("far", x, y -> y.end(Integer.MAX_VALUE));
        Edges.none("far below", x, y -> y.end(Integer.MIN_VALUE));
        Edges.unchanged("20 of 20", x, 20, y -> y.end(20));
        due("19 of 20", x.end(19), 19);
        Edges.none("20 of 19", x, y -> y.end(20));
        due("0 of 19", x.end(0), 0);
        due("TAPE", x.count(7), 0);
        Check.type(x, "worth 12");
        x.end(7);
        x.law();
        due("its first n bytes alone", x.count(4), 1);
        x.good(0, 77, 0);
        x.force(0);
        due("worth 1", x.asks(0, 1, 0), 1);
    }

    private static int row(GiftDuel x, int... bytes) {
        byte[] tape = new byte[bytes.length];
        for (int i = 0; i < bytes.length; i++) {
            tape[i] = (byte) bytes[i];
        }
        Check.typeBytes(x, tape);
        return x.row();
    }

    /** "the TAPE's bytes by threes: HOLDER, BASE, KEEP: a GOOD". */
    private static void rowByThrees() {
        GiftDuel x = Edges.hall(3);
        due("two", row(x, 2, 99, 20, 0, 0, 0), 2);
        due("no DROSS", x.dross(), 0);
        due("HOLDER", x.at(0, 0) * 10 + x.at(1, 0), 20);
        due("OWNER", x.at(0, 1) * 10 + x.at(1, 1), 20);
        due("BASE", x.at(0, 2) * 10 + x.at(1, 2), 990);
        due("KEEP", x.at(0, 3) * 10 + x.at(1, 3), 200);
        due("GIVEN", x.at(0, 4) + x.at(1, 4), 0);
        due("TAPE", x.count(7), 0);
        due("anyone's on the SHELF", x.shelf(0, -1), -1);
    }

    /** "one that can't be .. is DROSS: none": the ones behind it come. */
    private static void rowThatCantBe() {
        GiftDuel x = Edges.hall(3);
        due("no such HOLDER", row(x, 3, 1, 1, 2, 1, 1), 1);
        due("DROSS", x.dross(), 1);
        due("BASE 100", row(x, 0, 100, 1, 0, 99, 1), 1);
        due("DROSS", x.dross(), 1);
        due("KEEP 21", row(x, 0, 1, 21, 0, 1, 20), 1);
        due("DROSS", x.dross(), 1);
        due("255 each", row(x, 255, 1, 1, 0, 255, 1, 0, 1, 255, 255, 255, 255), 0);
        due("DROSS", x.dross(), 4);
        due("three GOODS", x.count(1), 3);
        due("none is REFUSED", x.status() + x.count(8) + x.count(9) + x.count(12), 0);
        GiftDuel y = new GiftDuel();
        due("without LORDS", row(y, 0, 0, 0), 0);
        due("DROSS", y.dross(), 1);
    }

    /** "one within which the TAPE ends". */
    private static void rowWithinWhichTheTapeEnds() {
        for (int bytes = 1; bytes <= 7; bytes++) {
            GiftDuel x = Edges.hall(1);
            due("of " + bytes, row(x, new int[bytes]), bytes / 3);
            due("DROSS of " + bytes, x.dross(), bytes % 3 == 0 ? 0 : 1);
            due("TAPE of " + bytes, x.count(7), 0);
        }
        GiftDuel x = Edges.hall(1);
        x.feed(0, 0, 0, 0, 0);
        x.end(2);
        due("bytes that were cut off do not count", x.row(), 0);
        due("DROSS", x.dross(), 1);
    }

    /** "one for which there is no room". */
    private static void rowWithoutRoom() {
        GiftDuel x = Edges.hall(1);
        due("sixteen of seventeen", row(x, new int[51]), 16);
        due("DROSS", x.dross(), 1);
        due("none of one", row(x, 0, 0, 0), 0);
        due("DROSS", x.dross(), 1);
        GiftDuel y = Edges.hall(1);
        for (int i = 0; i < 20; i++) {
            y.feed(0, 0, 0, 0, 0);
        }
        due("of 400 bytes", y.row(), 16);
        due("DROSS of 134", y.dross(), 118);
    }

    /** Promise 10: "-6 the TAPE is empty". */
    private static void rowOfNothing() {
        GiftDuel x = Edges.hall(1);
        Edges.refused("row of nothing", x, -6, y -> y.row());
        x.feed(0, 0, 0, 0, 0);
        x.end(0);
        Edges.refused("row of what was cut off", x, -6, y -> y.row());
        due("row of one byte", row(x, 0), 0);
        Edges.refused("row once more", x, -6, y -> y.row());
    }

    /** Promise 11: "of the latest row() .. that was not REFUSED (0 ahead of any)". */
    private static void drossOfTheLatest() {
        GiftDuel x = Edges.hall(1);
        due("ahead of any", x.dross(), 0);
        x.row();
        due("REFUSED", x.dross(), 0);
        row(x, 9, 9, 9, 9, 9, 9, 9);
        due("three", x.dross(), 3);
        x.row();
        due("REFUSED leaves it", x.dross(), 3);
        x.image(0);
        row(x, 0, 0, 0);
        due("none", x.dross(), 0);
        row(x, 9);
        x.back(0);
        due("BACK leaves it", x.dross(), 1);
    }

    /** Promise 12: "-5 (ahead of reading it; the TAPE is empty then, too)". */
    private static void lawAheadOfReading() {
        GiftDuel x = Edges.hall(1);
        for (int i = 0; i < 6; i++) {
            due("LAW " + i, Check.law(x, "bars"), i);
        }
        Check.orders(x, "wait;wait!");
        due("FAULT", x.fault(), 9);
        for (String text : new String[] {"bars", "barz", ""}) {
            due("'" + text + "'", Check.law(x, text), -5);
            due("status of '" + text + "'", x.status(), -5);
            due("TAPE behind '" + text + "'", x.count(7), 0);
            due("FAULT stays: none was read", x.fault(), 9);
        }
        due("REFUSED by -5", x.count(11), 3);
        due("six", x.count(4), 6);
    }

    /** Promise 12: "-6 (blanks alone: FAULT at the end)": and of an empty TAPE. */
    private static void lawOfBlanks() {
        for (int blanks = 0; blanks <= 21; blanks += 7) {
            GiftDuel x = new GiftDuel();
            due("LAW of " + blanks + " blanks", Check.law(x, " ".repeat(blanks)), -6);
            due("FAULT of " + blanks + " blanks", x.fault(), blanks);
            due("ORDERS of " + blanks + " blanks", Check.orders(x, " ".repeat(blanks)), -6);
            due("FAULT of " + blanks + " blanks", x.fault(), blanks);
            due("REFUSED by -6", x.count(12), 2);
            due("no LAW", x.count(4), 0);
            due("status", x.status(), -6);
        }
        GiftDuel x = new GiftDuel();
        Check.law(x, "bars");
        Check.law(x, "bars bars");
        due("its number comes next", Check.law(x, "bars"), 1);
    }

    /** Promise 14: "its place; NONE without". */
    private static void faultOfTheLatest() {
        GiftDuel x = Edges.hall(1);
        due("ahead of any", x.fault(), -1);
        Check.law(x, "!");
        due("place 0 is one", x.fault(), 0);
        Check.orders(x, "wait");
        due("of the latest: without", x.fault(), -1);
        Check.orders(x, "wait wait");
        due("of the latest: 5", x.fault(), 5);
        row(x, 0, 0, 0);
        due("row() reads no TEXT", x.fault(), 5);
        Check.law(x, "bars");
        due("of the latest: without", x.fault(), -1);
        Check.orders(x, "wait wait");
        Check.orders(x, "give 9 to 9");
        due("what can't be was read", x.fault(), -1);
    }

    /** Promise 16: "(NONE: none): which was". */
    private static void forceOfNone() {
        GiftDuel x = Edges.hall(1);
        due("none by none", x.force(-1), -1);
        due("not REFUSED", x.status() + x.count(9), 0);
        for (int i = 0; i < 6; i++) {
            Check.law(x, "bars");
        }
        due("the first", x.force(0), -1);
        due("the last", x.force(5), 0);
        due("once more", x.force(5), 5);
        due("none", x.force(-1), 5);
        due("none", x.count(13), -1);
    }

    /** "SEED (0 .. 1,000,000)", "n 1 .. 50"; "-3 there are no LORDS". */
    private static void generationNumbers() {
        Edges.bounds("SEED", 0, 1000000, -1, x -> x.lord(0, 0), (x, n) -> x.generation(n, 1));
        Edges.bounds("n", 1, 50, -1, x -> x.lord(0, 0), (x, n) -> x.generation(0, n));
        GiftDuel x = new GiftDuel();
        Edges.refused("no LORDS", x, -3, y -> y.generation(0, 1));
        Edges.refused("no LORDS", x, -3, y -> y.generation(1000000, 50));
    }

    /** The DRAWS of the document, by its words. */
    private static final class Draws {
        private long s;

        Draws(int seed) {
            s = seed;
        }

        int of(int m) {
            s = (s * 1103 + 12345) % 1000003;
            return (int) (s % m);
        }
    }

    /** "s becomes (s times 1103 and 12345) modulo 1,000,003, it is s modulo m": from 0, from 1,000,000, too. */
    private static void generationDraws() {
        for (int seed : new int[] {0, 1, 2, 894, 895, 896, 500000, 999999, 1000000}) {
            GiftDuel x = new GiftDuel();
            int[] grain = new int[6];
            for (int i = 0; i < 6; i++) {
                x.lord(0, 10 + i);
            }
            due("gifts", x.generation(seed, 50), 0);
            Draws s = new Draws(seed);
            for (int year = 0; year < 50; year++) {
                for (int i = 0; i < 6; i++) {
                    grain[i] += s.of(3) == 0 ? 0 : 10 + i;
                }
            }
            for (int i = 0; i < 6; i++) {
                due("GRAIN of LORD " + i + " by SEED " + seed, x.drawn(i, 0), grain[i]);
            }
        }
    }

    /** "(without GOODS: no DRAWS)" of GOODS and LORDS; with one GOOD and one LORD there are. */
    private static void generationWithoutGoods() {
        int differ = 0;
        for (int seed = 0; seed < 20; seed++) {
            GiftDuel x = new GiftDuel();
            x.lord(0, 10);
            x.generation(seed, 1);
            due("the first DRAW is of HARVEST", x.drawn(0, 0), new Draws(seed).of(3) == 0 ? 0 : 10);
            int without = x.drawn(0, 0);
            x.good(0, 1, 0);
            due("no gift to itself", x.generation(seed, 1), 0);
            Draws s = new Draws(seed);
            s.of(1);
            s.of(1);
            due("the third DRAW is of HARVEST", x.drawn(0, 0), s.of(3) == 0 ? 0 : 10);
            differ += without == x.drawn(0, 0) ? 0 : 1;
        }
        Check.holds("it is another", differ > 0);
    }

    /** "a gift to that one, if it can be": not to its HOLDER, not BARRED, to none RUINED; counted if it was given. */
    private static void generationGift() {
        int given = 0;
        for (int seed = 0; seed < 40; seed++) {
            GiftDuel x = Edges.halls(3);
            Draws s = new Draws(seed);
            int good = s.of(3);
            int to = s.of(3);
            int gifts = good == to ? 0 : 1;
            due("gifts by SEED " + seed, x.generation(seed, 1), gifts);
            given += gifts;
            due("held by " + to, x.drawn(to, 6), 1 + gifts);
            due("lost by " + to, x.drawn(to, 4), gifts);
            due("won by the giver", x.drawn(good, 5), gifts);
            Check.rule(x, "bars if to = " + to);
            due("BARRED by SEED " + seed, x.generation(seed, 1), 0);
        }
        Check.holds("some were given, some were not", given > 0 && given < 40);
        generationOfRuined();
    }

    /** Of one RUINED, or to one RUINED, nothing is given. */
    private static void generationOfRuined() {
        for (int seed = 0; seed < 40; seed++) {
            GiftDuel x = Edges.halls(3);
            x.put(0, 0, 0);
            x.good(0, 1, 1);
            x.await();
            Draws s = new Draws(seed);
            int good = s.of(4);
            int to = s.of(3);
            int holder = good == 3 ? 0 : good;
            due("by SEED " + seed, x.generation(seed, 1), holder == 0 || to == 0 || holder == to ? 0 : 1);
        }
    }

    /** "(beyond YEAR 999: it ends there)": the gift and the DRAWS of YEAR 999 come still. */
    private static void generationBeyond999() {
        for (int seed = 0; seed < 20; seed++) {
            GiftDuel x = Edges.halls(2);
            x.terms(0, 999);
            Draws s = new Draws(seed);
            int gifts = s.of(2) == s.of(2) ? 0 : 1;
            due("gifts in YEAR 999", x.generation(seed, 50), gifts);
            due("no YEAR passed", x.drawn(0, 0) + x.drawn(1, 0), 200);
            due("none was lost", x.drawn(0, 4) + x.drawn(1, 4), 0);
            x.put(0, 1, 99);
            x.terms(0, 990);
            x.generation(seed, 10);
            int ten = x.drawn(0, 0) + 10000 * x.drawn(0, 6);
            x.generation(seed, 50);
            due("fifty are no more than ten from 990 on", x.drawn(0, 0) + 10000 * x.drawn(0, 6), ten);
            due("YEAR", x.count(14), 990);
        }
        GiftDuel y = new GiftDuel();
        y.lord(0, 99);
        y.terms(0, 949);
        y.generation(7, 50);
        int all = y.drawn(0, 0);
        y.terms(0, 0);
        y.generation(7, 50);
        due("fifty to YEAR 999", all, y.drawn(0, 0));
    }

    /** "on paper": nothing is another then, but for drawn(); it can't be undone. */
    private static void generationOnPaper() {
        GiftDuel x = Edges.halls(3);
        x.give(0, 1);
        String ahead = undrawn(x);
        for (int seed = 0; seed < 9; seed++) {
            x.generation(seed, 50);
            Check.holds("nothing is another", ahead.equals(undrawn(x)));
        }
        due("the gift can be undone", x.undo(), 0);
        due("no more", x.undo(), -3);
    }

    private static String undrawn(GiftDuel x) {
        StringBuilder all = new StringBuilder();
        for (int i = 0; i < 3; i++) {
            for (int what = 0; what < 8; what++) {
                all.append(x.of(i, what)).append(' ').append(x.at(i, what)).append(' ').append(x.count(2 * i + what));
            }
            all.append(x.debt(i, 0, 0)).append(x.debt(i, 1, 0)).append(x.debt(i, 2, 1));
        }
        return all.toString();
    }

    /** Promise 36: "what 0 .. 6. NONE": ahead of any, of LORDS that were not there then. */
    private static void drawnOfNone() {
        GiftDuel x = Edges.halls(2);
        Edges.none("ahead of any", x, y -> y.drawn(0, 0));
        x.generation(0, 0);
        Edges.none("REFUSED", x, y -> y.drawn(0, 0));
        x.generation(0, 1);
        Edges.asked("drawn's LORD", 0, 1, x, (y, n) -> y.drawn(n, 0));
        Edges.asked("drawn's what", 0, 6, x, (y, n) -> y.drawn(1, n));
        x.lord(0, 0);
        Edges.none("a LORD who came since", x, y -> y.drawn(2, 0));
        due("is there", x.of(2, 0), 0);
    }

    /** "the latest GENERATION": REFUSED ones leave it; BACK leaves it, too. */
    private static void drawnOfTheLatest() {
        GiftDuel x = new GiftDuel();
        x.image(0);
        x.lord(5, 0);
        x.lord(6, 0);
        x.generation(3, 50);
        x.put(0, 0, 77);
        due("as it was then", x.drawn(0, 0), 5);
        x.generation(-1, 1);
        x.generation(1, 51);
        due("REFUSED leaves it", x.drawn(1, 0), 6);
        x.back(0);
        due("no LORDS now", x.of(1, 0), -1);
        due("BACK leaves it", x.drawn(1, 0), 6);
        due("REFUSED without LORDS", x.generation(1, 1), -3);
        due("that leaves it, too", x.drawn(1, 0), 6);
        x.lord(9, 0);
        x.generation(1, 1);
        due("the latest", x.drawn(0, 0), 9);
        due("of one LORD alone", x.drawn(1, 0), -1);
    }

    /** "keep all but the TAPE, FAULT, DROSS, where ORDERS stopped, what can be undone .., the latest GENERATION". */
    private static void imagesKeepAllBut() {
        GiftDuel x = Edges.halls(3);
        x.terms(1, 3);
        x.terms(2, 8);
        x.terms(0, 40);
        x.herald(2);
        x.road(0, 1, 3, 4);
        x.give(0, 1);
        x.give(0, 2);
        Check.rule(x, "worth 44");
        x.shelf(1, 2);
        String kept = behindCounts(x);
        x.image(1);
        x.lord(1, 1);
        x.good(3, 1, 1);
        x.put(0, 0, 3);
        x.put(1, 1, 3);
        x.terms(1, 2);
        x.terms(2, 1);
        x.herald(7);
        x.road(0, 2, 1, 0);
        x.shelf(1, 0);
        x.give(2, 0);
        x.await();
        x.await();
        Check.rule(x, "bars");
        row(x, 9, 9, 9, 9);
        Check.orders(x, "wait; give 9 to 9");
        Check.law(x, "bars bars");
        Check.type(x, "wait");
        due("BACK", x.back(1), 0);
        due("the TAPE stays", x.count(7), 4);
        due("FAULT stays", x.fault(), 5);
        due("DROSS stays", x.dross(), 2);
        due("where ORDERS stopped stays", x.stopped(), 1);
        x.end(0);
        int[] counts = {3, 3, 1, 1, 1, 1, 0, 0};
        for (int what = 0; what < counts.length; what++) {
            due("count(" + what + ")", x.count(what), counts[what]);
        }
        due("in FORCE, TERMS", x.count(13) * 10000 + x.count(14) * 100 + x.count(15) * 10 + x.count(16), 4038);
        Check.holds("all is as it was", kept.equals(behindCounts(x)));
        due("SHELVES", x.shelf(1, -1), 2);
        due("a LAW is the second again", Check.law(x, "bars"), 1);
        due("a LORD is the fourth again", x.lord(0, 0), 3);
    }

    private static String behindCounts(GiftDuel x) {
        String seen = Edges.seen(x);
        return seen.substring(seen.indexOf(';'));
    }

    /** An IMAGE of all there can be: six LORDS, sixteen GOODS, five HERALDS, twelve ROADS, six LAWS. */
    private static void imagesKeepAllThereCanBe() {
        GiftDuel x = Edges.hall(6);
        for (int i = 0; i < 16; i++) {
            x.good(i % 6, i, i);
            x.shelf(i, (i + 1) % 6);
        }
        for (int i = 0; i < 5; i++) {
            x.herald(1 + i);
        }
        for (int i = 0; i < 11; i++) {
            x.road(0, 1, 1 + i, 9);
        }
        x.road(4, 5, 7, 2);
        for (int i = 0; i < 6; i++) {
            Check.law(x, "worth " + (80 + i) + " + herald");
        }
        x.force(5);
        x.give(5, 4);
        x.give(4, 3);
        String kept = behindCounts(x);
        x.image(0);
        x.image(1);
        x.undo();
        x.undo();
        x.force(0);
        for (int i = 0; i < 20; i++) {
            x.await();
        }
        for (int k = 0; k <= 1; k++) {
            x.back(k);
            Check.holds("all is kept", kept.equals(behindCounts(x)));
            due("how many", x.count(0) * 10000 + x.count(1) * 100 + x.count(2) * 10 + x.count(4), 61656);
            due("ROADS, challenges, in FORCE", x.count(3) * 100 + x.count(5) * 10 + x.count(13), 1225);
            for (int i = 0; i < 16; i++) {
                due("SHELF " + i, x.shelf(i, -1), (i + 1) % 6);
            }
            for (int i = 0; i < 6; i++) {
                x.force(i);
                due("LAW " + i, x.asks(0, 1, 0), 79 + i);
            }
            due("the last ROAD", x.way(5, 4, 0) + x.way(5, 4, 1), 80007);
        }
    }

    /** LAWS read behind an IMAGE are not its own, even if they bear the same numbers. */
    private static void lawsOfImages() {
        GiftDuel x = Edges.halls(2);
        for (int i = 0; i < 6; i++) {
            x.image(0);
            due("LAW " + i, Check.law(x, "worth 20 + " + i), i);
            x.force(i);
            x.image(1);
            x.back(0);
            due("LAWS", x.count(4), i);
            due("another LAW " + i, Check.law(x, "worth 90"), i);
            x.force(i);
            due("the other one tells", x.asks(0, 1, 0), 90);
            x.back(1);
            due("BACK to the first one", x.asks(0, 1, 0), 20 + i);
        }
        due("a seventh", Check.law(x, "worth 90"), -5);
        x.back(0);
        due("the sixth again", Check.law(x, "worth 91"), 5);
        for (int i = 0; i < 6; i++) {
            x.force(i);
            due("LAW " + i + " tells", x.asks(0, 1, 0), i < 5 ? 20 + i : 91);
        }
    }

    /** "(IMAGES stay)": both, apart from one another; one that is kept anew is another then. */
    private static void imagesStay() {
        GiftDuel x = Edges.hall(1);
        x.image(0);
        x.put(0, 0, 200);
        x.image(1);
        x.put(0, 0, 300);
        for (int i = 0; i < 3; i++) {
            due("BACK to 0", x.back(0), 0);
            due("GRAIN", x.of(0, 0), 100);
            x.put(0, 0, 999);
            due("BACK to 1", x.back(1), 0);
            due("GRAIN", x.of(0, 0), 200);
            x.put(0, 0, 888);
        }
        x.image(0);
        x.back(1);
        due("1 stays", x.of(0, 0), 200);
        x.back(0);
        due("0 is another", x.of(0, 0), 888);
    }

    /** An IMAGE of no LORDS is one. */
    private static void imageOfAnEmptyHall() {
        GiftDuel x = new GiftDuel();
        due("kept", x.image(0), 0);
        for (int i = 0; i < 6; i++) {
            x.lord(1, 1);
        }
        for (int i = 0; i < 16; i++) {
            x.good(i % 6, 1, 1);
        }
        x.give(0, 1);
        x.shelf(0, 3);
        x.herald(1);
        x.road(0, 1, 1, 1);
        due("BACK", x.back(0), 0);
        for (int what = 0; what <= 7; what++) {
            due("count(" + what + ")", x.count(what), 0);
        }
        due("all begin anew", x.lord(3, 3) + x.good(0, 3, 3) + x.herald(3), 0);
        due("GIVEN", x.at(0, 4), 0);
        due("OWNER", x.at(0, 1), 0);
        due("SHELF", x.shelf(0, 0), -1);
        due("no challenge", x.owed(0, 0), 0);
        due("no way", x.way(0, 1, 0), -1);
        x.lord(4, 4);
        due("no ROAD", x.way(0, 1, 0), -1);
    }

    /** "what can be undone (nothing, behind back())"; a REFUSED one leaves it. */
    private static void backUndoesNothing() {
        GiftDuel x = Edges.halls(2);
        x.give(0, 1);
        x.image(0);
        x.await();
        x.back(1);
        x.back(2);
        due("REFUSED leaves it", x.count(6), 2);
        x.back(0);
        due("nothing", x.count(6), 0);
        Edges.refused("nothing to be undone", x, -3, y -> y.undo());
        x.await();
        due("what comes behind it can be", x.undo(), 1);
        due("the gift can't", x.undo(), -3);
    }

    /** Promise 39: "NONE for others". */
    private static void countOfNone() {
        GiftDuel x = Edges.hall(1);
        Check.rule(x, "bars");
        Edges.asked("count", 0, 16, x, (y, n) -> y.count(n));
        due("LAW in FORCE", x.count(13), 0);
        x.force(-1);
        due("none in FORCE", x.count(13), -1);
    }

    /** Promise 39: "how many calls were REFUSED by -1, -2, -3, -5, -6 (IMAGES do not keep that)". */
    private static void countRefused() {
        GiftDuel x = Edges.hall(1);
        x.image(0);
        Edges.Call[] calls = {y -> y.terms(3, 3), y -> y.give(9, 9), y -> y.undo(), y -> sixthHerald(y), y -> y.row()};
        int[] by = {-1, -2, -3, -5, -6};
        for (int i = 0; i < calls.length; i++) {
            for (int n = 1; n <= i + 1; n++) {
                due("REFUSED", calls[i].on(x), by[i]);
                due("counted", x.count(8 + i), n);
            }
        }
        x.back(0);
        for (int i = 0; i < calls.length; i++) {
            due("BACK leaves count(" + (8 + i) + ")", x.count(8 + i), i + 1);
        }
        due("sum", x.count(8) + x.count(9) + x.count(10) + x.count(11) + x.count(12), 15);
    }

    private static int sixthHerald(GiftDuel x) {
        while (x.count(2) < 5) {
            x.herald(1);
        }
        return x.herald(1);
    }

    /** Promise 40: "What the latest call of .. was REFUSED by; 0 if it was not, or ahead of any". */
    private static void statusOfTheLatest() {
        String[] names = {"lord", "put", "good", "terms", "row", "law", "orders", "force", "give", "await", "undo",
            "herald", "road", "shelf", "generation", "image", "back"};
        Edges.Call[] refused = {x -> x.lord(-1, 0), x -> x.put(0, 2, 0), x -> x.good(0, -1, 0), x -> x.terms(3, 0),
            x -> x.row(), x -> x.law(), x -> x.orders(), x -> x.force(9), x -> x.give(0, 0), x -> late(x), x -> x.undo(),
            x -> x.herald(0), x -> x.road(0, 0, 0, 0), x -> x.shelf(0, -2), x -> x.generation(0, 0), x -> x.image(2),
            x -> x.back(0)};
        int[] by = {-1, -1, -1, -1, -6, -6, -6, -2, -3, -3, -3, -1, -1, -1, -1, -1, -2};
        Edges.Call[] accepted = {x -> x.lord(0, 0), x -> x.put(0, 0, 0), x -> x.good(0, 0, 0), x -> x.terms(0, 0),
            x -> row(x, 9), x -> Check.law(x, "bars"), x -> Check.orders(x, "wait if 1=2"), x -> x.force(-1),
            x -> x.give(0, 1), x -> x.await(), x -> x.await() + x.give(9, 9) + x.undo(), x -> x.herald(1),
            x -> x.road(0, 1, 1, 1),
            x -> x.shelf(0, -1), x -> x.generation(0, 1), x -> x.image(1), x -> x.image(0) + x.give(9, 9) + x.back(0)};
        for (int i = 0; i < names.length; i++) {
            GiftDuel x = Edges.halls(2);
            due(names[i] + " REFUSED", refused[i].on(x), by[i]);
            due("status of " + names[i], x.status(), by[i]);
            x.terms(0, 0);
            due("status of terms behind " + names[i], x.status(), 0);
            x.give(9, 9);
            accepted[i].on(x);
            due("status of " + names[i] + " not REFUSED", x.status(), 0);
        }
        GiftDuel x = Edges.halls(2);
        x.give(9, 9);
        x.feed(0, 0, 0, 0, 0);
        x.end(50);
        x.end(0);
        Edges.seen(x);
        due("others leave it", x.status(), -2);
    }

    private static int late(GiftDuel x) {
        x.terms(0, 999);
        return x.await();
    }
}
