/** Terms III, heralds, ways, rings, shelves, and promises 26 to 34: a test for each boundary case that a sentence names. */
public final class EdgesHallsTest {
    public static void main(String[] args) {
        middleOne();
        tellsOfNone();
        tellsOfManySizes();
        bribeWithinReach();
        bribeAbove999();
        bribeOfNone();
        bribeAlreadyMore();
        bribeOfWhom();
        bribeForThatOneAlone();
        wayToItself();
        wayOfNone();
        wayOfNoneAboveZero();
        fewerRoadsCount();
        fiveRoadsAtMost();
        likelyThenDaysThenRow();
        alikeRoads();
        ringOfNone();
        ringOfThreeToSix();
        ringFewestLowestFirst();
        ringBegunWithTheLowest();
        ringStandsNoMore();
        shelfAnyoneAtFirst();
        shelfRefused();
        foundOfNone();
        foundOfNoGifts();
        foundOfNoGoods();
        foundNoRow();
        foundJustSoMany();
        foundFirst();
        foundBarred();
        foundSecondHandOrNot();
        foundMost();
        beatsOfNone();
        beatsWithoutGoods();
        beatsMoreThanAny();
        Check.finish("EdgesHallsTest");
    }

    private static void due(String call, long got, long want) {
        Check.due(call, got, want);
    }

    /** So many HERALDS who TELL of GOOD 0 what the numbers tell, of other GOODS their BASE; all of PRICE 1. */
    private static GiftDuel heralds(int... tells) {
        GiftDuel x = Edges.hall(2);
        x.good(0, 10, 0);
        x.good(1, 10, 0);
        StringBuilder law = new StringBuilder("keeps 0");
        for (int h = 0; h < tells.length; h++) {
            x.herald(1);
            law.append("; worth ").append(tells[h]).append(" if good=0 and herald=").append(h);
        }
        Check.rule(x, law.toString());
        return x;
    }

    /** "(in order of size) the middle one (of two the lower)". */
    private static void middleOne() {
        int[][] tells = {{7}, {7, 5}, {5, 7}, {9, 1, 5}, {1, 5, 9}, {5, 5, 1}, {9, 1, 5, 7}, {4, 3, 2, 1}, {1, 2, 2, 1},
            {5, 4, 3, 2, 1}, {1, 2, 3, 4, 5}, {3, 9, 9, 1, 1}, {0, 999, 0, 999, 500}, {8, 8, 8, 8, 8}};
        int[] due = {7, 5, 5, 5, 5, 5, 5, 2, 1, 3, 3, 3, 500, 8};
        for (int i = 0; i < due.length; i++) {
            GiftDuel x = heralds(tells[i]);
            int want = due[i];
            Edges.unchanged("the middle one of row " + i, x, want, y -> y.tells(-1, 0));
            for (int h = 0; h < tells[i].length; h++) {
                due("HERALD " + h + " of row " + i, x.tells(h, 0), tells[i][h]);
            }
            due("of another GOOD", x.tells(-1, 1), 10);
        }
    }

    /** Promise 27: "NONE (without HERALDS, too)": no such HERALD, no such GOOD. */
    private static void tellsOfNone() {
        GiftDuel x = Edges.halls(2);
        Edges.none("all, without HERALDS", x, y -> y.tells(-1, 0));
        Edges.none("HERALD 0, without HERALDS", x, y -> y.tells(0, 0));
        x.herald(1);
        x.herald(1);
        Edges.asked("HERALD", -1, 1, x, (y, n) -> y.tells(n, 0));
        Edges.asked("GOOD of HERALD 1", 0, 1, x, (y, n) -> y.tells(1, n));
        Edges.asked("GOOD of all", 0, 1, x, (y, n) -> y.tells(-1, n));
        Edges.none("HERALDS without GOODS", heraldAlone(), y -> y.tells(0, 0));
    }

    private static GiftDuel heraldAlone() {
        GiftDuel x = new GiftDuel();
        x.herald(1);
        return x;
    }

    /** What a HERALD TELLS is 0 .. 999: the middle one is of these. */
    private static void tellsOfManySizes() {
        GiftDuel x = heralds(1000, 1000, 1000);
        due("999 at most", x.tells(-1, 0), 999);
        GiftDuel y = Edges.halls(2);
        y.herald(9);
        y.herald(9);
        Check.rule(y, "worth herald - 5");
        due("0 at least", y.tells(-1, 0), 0);
    }

    private static void bribe(String call, GiftDuel x, int least, int bits) {
        Edges.unchanged(call + ": the least", x, least, y -> y.bribe(0, 1, 0));
        Edges.unchanged(call + ": bribed", x, bits, y -> y.bribe(0, 1, 1));
    }

    /** "worth more than another one": as much is no more, one more is enough. */
    private static void bribeWithinReach() {
        bribe("as much", heralds(10), 1, 1);
        bribe("one less", heralds(9), 2, 1);
        bribe("from 0", heralds(0), 11, 1);
        bribe("one more already", heralds(11), 0, 0);
        for (int price = 1; price <= 9; price++) {
            GiftDuel x = Edges.halls(2);
            x.herald(price);
            bribe("by PRICE " + price, x, price, 1);
        }
    }

    /** "NONE (above 999": that is, if the other one is worth 999 already; 998 leaves 999. */
    private static void bribeAbove999() {
        GiftDuel x = Edges.halls(2);
        x.herald(9);
        Check.rule(x, "worth 0; worth 998 if good = 1");
        bribe("up to 999", x, 999 * 9, 1);
        Check.rule(x, "worth 0; worth 999 if good = 1");
        bribe("above 999", x, -1, -1);
        Check.rule(x, "worth 999");
        bribe("above 999 by one", x, -1, -1);
        x.herald(9);
        Check.rule(x, "worth 0; worth 999 if good = 1 and herald = 1");
        bribe("one HERALD alone TELLS 999", x, 1 * 18, 3);
    }

    /** "the same one, too)": no such GOOD, no HERALDS, another what. */
    private static void bribeOfNone() {
        GiftDuel x = Edges.halls(3);
        Edges.none("without HERALDS", x, y -> y.bribe(0, 1, 0));
        Edges.none("without HERALDS", x, y -> y.bribe(0, 1, 1));
        x.herald(1);
        for (int good = 0; good < 3; good++) {
            int same = good;
            Edges.none("the same", x, y -> y.bribe(same, same, 0));
            Edges.none("the same", x, y -> y.bribe(same, same, 1));
        }
        Edges.asked("bribe's what", 0, 1, x, (y, n) -> y.bribe(0, 1, n));
        Edges.asked("bribe's GOOD", 1, 2, x, (y, n) -> y.bribe(n, 0, 0));
        Edges.asked("bribe's other GOOD", 1, 2, x, (y, n) -> y.bribe(0, n, 0));
    }

    /** It is worth more already: 0, by none. */
    private static void bribeAlreadyMore() {
        bribe("by the middle one of three", heralds(0, 11, 12), 0, 0);
        bribe("by the lower one of two", heralds(11, 12), 0, 0);
        bribe("not by the higher one of two", heralds(10, 12), 1, 1);
        bribe("by two of four it is not", heralds(9, 99, 8, 99), 2, 1);
        bribe("by three of four it is", heralds(11, 99, 8, 99), 0, 0);
        bribe("by three of five it is", heralds(0, 11, 11, 11, 0), 0, 0);
    }

    /** "HERALDS bribed, as bits, the lowest": all it takes, and no more. */
    private static void bribeOfWhom() {
        bribe("both of two", heralds(10, 10), 2, 3);
        bribe("two of three", heralds(10, 10, 10), 2, 3);
        bribe("three of four", heralds(10, 10, 10, 10), 3, 7);
        bribe("three of five", heralds(10, 10, 10, 10, 10), 3, 7);
        bribe("the nearest three", heralds(0, 10, 1, 10, 10), 3, 26);
        bribe("one and who TELLS more already", heralds(99, 0, 5), 6, 4);
        GiftDuel x = Edges.halls(2);
        x.herald(9);
        x.herald(1);
        x.herald(5);
        bribe("the cheapest two", x, 6, 6);
        Check.rule(x, "worth 2 if good=0 and herald=2; worth 9 if good=0 and herald=1; worth 6 if good=0 and herald=0");
        bribe("9 times 5 are as many as 5 times 9", x, 47, 3);
    }

    /** "(for that one alone)": what HERALDS TELL of the other one stays. */
    private static void bribeForThatOneAlone() {
        GiftDuel x = heralds(5);
        bribe("once", x, 6, 1);
        bribe("and again", x, 6, 1);
        due("the other way", x.bribe(1, 0, 0), 0);
        due("nothing was paid", x.of(0, 0), 100);
    }

    private static void way(String call, GiftDuel x, int from, int to, int... due) {
        for (int what = 0; what <= 9; what++) {
            int asked = what;
            Edges.unchanged(call + ": what " + what, x, what < due.length ? due[what] : -1, y -> y.way(from, to, asked));
        }
        Edges.none(call + ": what -1", x, y -> y.way(from, to, -1));
        Edges.none(call + ": what far", x, y -> y.way(from, to, Integer.MAX_VALUE));
        Edges.none(call + ": what far below", x, y -> y.way(from, to, Integer.MIN_VALUE));
    }

    /** A way from a LORD to that one is of no ROADS: "fewer ROADS count as 10 of ten each". */
    private static void wayToItself() {
        way("without ROADS", Edges.hall(2), 1, 1, 100000, 0, 0, 1);
        GiftDuel x = Edges.hall(6);
        x.road(0, 5, 1, 0);
        way("with ROADS", x, 5, 5, 100000, 0, 0, 5);
    }

    /** Promise 30: NONE of no such LORD, of no ROADS that lead there. */
    private static void wayOfNone() {
        GiftDuel x = Edges.hall(4);
        way("without ROADS", x, 0, 1);
        x.road(0, 1, 1, 0);
        x.road(2, 3, 1, 0);
        way("not that far", x, 0, 3);
        Edges.asked("from, to", 0, 1, Edges.hall(2), (y, n) -> y.way(n, n, 0));
        Edges.none("from LORD 4", x, y -> y.way(4, 0, 0));
        Edges.none("from LORD -1", x, y -> y.way(-1, 0, 0));
        Edges.none("to LORD 4", x, y -> y.way(0, 4, 0));
        Edges.none("to LORD -1", x, y -> y.way(0, -1, 0));
        Edges.none("from LORD 4 to LORD 4", x, y -> y.way(4, 4, 0));
        Edges.none("from LORD -1 to LORD -1", x, y -> y.way(-1, -1, 3));
    }

    /** "NONE (none of above 0, too)": THIEVES 10 on each way. */
    private static void wayOfNoneAboveZero() {
        GiftDuel x = Edges.hall(3);
        x.road(0, 1, 1, 10);
        way("of 0", x, 0, 1);
        x.road(1, 2, 1, 10);
        x.road(0, 2, 1, 0);
        way("of 0 by another, too", x, 0, 1);
        x.road(1, 2, 30, 9);
        way("one of ten", x, 0, 1, 10000, 31, 2, 0, 2, 1);
    }

    /** "(of 10 to the 5; fewer ROADS count as 10 of ten each)". */
    private static void fewerRoadsCount() {
        int[] due = {90000, 81000, 72900, 65610, 59049};
        GiftDuel x = Edges.hall(6);
        for (int i = 0; i < 5; i++) {
            x.road(i, i + 1, 2, 1);
            due("of " + (i + 1) + " ROADS", x.way(0, i + 1, 0), due[i]);
            due("DAYS", x.way(0, i + 1, 1), 2 * i + 2);
            due("ROADS", x.way(0, i + 1, 2), i + 1);
        }
        GiftDuel y = Edges.hall(6);
        for (int i = 0; i < 5; i++) {
            y.road(i, i + 1, 30, 9);
        }
        way("one of 100,000", y, 0, 5, 1, 150, 5, 0, 1, 2, 3, 4, 5);
        way("and back", y, 5, 0, 1, 150, 5, 5, 4, 3, 2, 1, 0);
    }

    /** "each LORD once, 5 ROADS at most". */
    private static void fiveRoadsAtMost() {
        GiftDuel x = Edges.hall(6);
        int[] row = {0, 5, 1, 4, 2, 3};
        for (int i = 0; i < 5; i++) {
            x.road(row[i], row[i + 1], 1, 0);
        }
        way("by all LORDS", x, 0, 3, 100000, 5, 5, 0, 5, 1, 4, 2, 3);
        x.road(0, 3, 1, 1);
        way("not by fewer", x, 0, 3, 100000, 5, 5, 0, 5, 1, 4, 2, 3);
    }

    /** "the most likely .., then the fewest DAYS, then the first as a row of LORDS". */
    private static void likelyThenDaysThenRow() {
        GiftDuel x = Edges.hall(5);
        x.road(0, 4, 1, 1);
        x.road(0, 3, 30, 0);
        x.road(3, 4, 30, 0);
        way("the most likely, of however many DAYS", x, 0, 4, 100000, 60, 2, 0, 3, 4);
        x.road(0, 2, 30, 0);
        x.road(2, 4, 30, 0);
        way("the first as a row", x, 0, 4, 100000, 60, 2, 0, 2, 4);
        x.road(3, 4, 29, 0);
        way("the fewest DAYS ahead of that", x, 0, 4, 100000, 59, 2, 0, 3, 4);
        x.road(0, 1, 20, 0);
        x.road(1, 2, 20, 0);
        x.road(2, 4, 19, 0);
        way("more ROADS may be first as a row", x, 0, 4, 100000, 49, 2, 0, 2, 4);
        x.road(1, 2, 10, 0);
        way("of as many DAYS", x, 0, 4, 100000, 49, 3, 0, 1, 2, 4);
    }

    /** "of alike ROADS between two: the lowest number": of unlike ones the better, whichever came first. */
    private static void alikeRoads() {
        GiftDuel x = Edges.hall(2);
        x.road(0, 1, 5, 3);
        x.road(0, 1, 5, 3);
        way("alike", x, 0, 1, 70000, 5, 1, 0, 1);
        x.road(1, 0, 1, 4);
        way("more THIEVES", x, 0, 1, 70000, 5, 1, 0, 1);
        x.road(0, 1, 4, 3);
        way("fewer DAYS", x, 0, 1, 70000, 4, 1, 0, 1);
        x.road(0, 1, 5, 3);
        x.road(1, 0, 30, 3);
        way("more DAYS", x, 0, 1, 70000, 4, 1, 0, 1);
        x.road(1, 0, 30, 2);
        way("fewer THIEVES", x, 0, 1, 80000, 30, 1, 0, 1);
    }

    private static void ring(String call, GiftDuel x, int... due) {
        Edges.unchanged(call + ": how many", x, due.length == 0 ? -1 : due.length, y -> y.ring(-1));
        for (int i = 0; i <= 7; i++) {
            int asked = i;
            Edges.unchanged(call + ": LORD " + i, x, i < due.length ? due[i] : -1, y -> y.ring(asked));
        }
        Edges.none(call + ": -2", x, y -> y.ring(-2));
        Edges.none(call + ": far", x, y -> y.ring(Integer.MAX_VALUE));
        Edges.none(call + ": far below", x, y -> y.ring(Integer.MIN_VALUE));
    }

    /** Promise 31: "NONE (none, too)". */
    private static void ringOfNone() {
        ring("without LORDS", new GiftDuel());
        GiftDuel x = Edges.halls(3);
        ring("without challenges", x);
        x.give(0, 1);
        x.give(1, 2);
        ring("not closed", x);
        x.good(0, 20, 0);
        x.give(3, 2);
        ring("two against one close nothing", x);
    }

    /** A challenge against each from the next one, the last from the first. */
    private static void ringOfThreeToSix() {
        for (int n = 3; n <= 6; n++) {
            GiftDuel x = Edges.halls(n);
            int[] row = new int[n];
            for (int i = 0; i < n; i++) {
                x.give(i, (i + n - 1) % n);
                row[i] = i;
            }
            due("of " + n + ", asked first of all", x.ring(n - 1), n - 1);
            ring("of " + n, x, row);
        }
    }

    /** LORDS of whom each holds six GOODS of WORTH 10; against[k] tells against whom and from whom. */
    private static GiftDuel feud(int lords, int... against) {
        GiftDuel x = Edges.hall(lords);
        int[] next = new int[lords];
        for (int i = 0; i < 16; i++) {
            x.good(i % lords, 10, 0);
        }
        for (int i = 0; i < against.length; i += 2) {
            int from = against[i + 1];
            x.give(from + lords * next[from], against[i]);
            next[from]++;
        }
        return x;
    }

    /** "the fewest, then lowest as bits ..; of alike ones the first as a row". */
    private static void ringFewestLowestFirst() {
        ring("three ahead of four", feud(6, 0, 1, 1, 2, 2, 3, 3, 0, 3, 4, 4, 5, 5, 3), 3, 4, 5);
        ring("lowest as bits: 1, 2, 4 ahead of 0, 3, 5", feud(6, 0, 3, 3, 5, 5, 0, 1, 2, 2, 4, 4, 1), 1, 2, 4);
        ring("0, 1, 5 behind 2, 3, 4", feud(6, 0, 1, 1, 5, 5, 0, 2, 3, 3, 4, 4, 2), 2, 3, 4);
        ring("the first as a row", feud(4, 0, 1, 1, 2, 2, 3, 3, 0, 1, 3, 0, 2), 0, 1, 3);
        ring("of four two rows", feud(4, 0, 1, 1, 2, 2, 3, 3, 0), 0, 1, 2, 3);
        ring("the first of alike four", feud(5, 0, 2, 2, 3, 3, 4, 4, 0, 3, 2, 0, 3, 2, 4), 0, 2, 4);
    }

    /** "begun with the lowest": the row goes by challenges. */
    private static void ringBegunWithTheLowest() {
        ring("three, the other way round", feud(3, 0, 2, 2, 1, 1, 0), 0, 2, 1);
        ring("not with 0", feud(6, 5, 3, 3, 4, 4, 5), 3, 4, 5);
        ring("not with 0, the other way round", feud(6, 5, 4, 4, 3, 3, 5), 3, 5, 4);
        ring("six, zigzag", feud(6, 0, 5, 5, 1, 1, 4, 4, 2, 2, 3, 3, 0), 0, 5, 1, 4, 2, 3);
    }

    /** Of challenges that stand: none that was answered, LOST or undone. */
    private static void ringStandsNoMore() {
        GiftDuel x = feud(3, 0, 1, 1, 2, 2, 0);
        ring("stands", x, 0, 1, 2);
        x.undo();
        ring("undone", x);
        x.give(0, 2);
        ring("again", x, 0, 1, 2);
        x.await();
        ring("LOST", x);
    }

    /** "of each GOOD a LORD is TOLD (NONE: anyone; at first)". */
    private static void shelfAnyoneAtFirst() {
        GiftDuel x = Edges.hall(6);
        for (int i = 0; i < 16; i++) {
            x.good(0, 1, 1);
            due("at first", x.shelf(i, 5), -1);
            due("then", x.shelf(i, 0), 5);
            due("and then", x.shelf(i, -1), 0);
            due("anyone again", x.shelf(i, -1), -1);
        }
        due("none is REFUSED", x.status() + x.count(8) + x.count(9), 0);
        x.shelf(15, 3);
        due("each its own", x.shelf(14, -1), -1);
        due("each its own", x.shelf(15, -1), 3);
    }

    /** Promise 32: "-1; -2". */
    private static void shelfRefused() {
        GiftDuel x = Edges.halls(2);
        Edges.refused("LORD -2", x, -1, y -> y.shelf(0, -2));
        Edges.refused("LORD far below", x, -1, y -> y.shelf(0, Integer.MIN_VALUE));
        Edges.refused("LORD 2", x, -2, y -> y.shelf(0, 2));
        Edges.refused("LORD far", x, -2, y -> y.shelf(0, Integer.MAX_VALUE));
        Edges.refused("GOOD 2", x, -2, y -> y.shelf(2, -1));
        Edges.refused("GOOD -1", x, -2, y -> y.shelf(-1, 0));
        x.shelf(1, 0);
        x.shelf(1, 7);
        x.shelf(1, -7);
        due("it stays", x.shelf(1, 1), 0);
    }

    private static void found(String call, GiftDuel x, int n, int rows, int... first) {
        Edges.unchanged(call + ": ROWS", x, rows, y -> y.found(n, 0));
        for (int what = 1; what <= 7; what++) {
            int asked = what;
            Edges.unchanged(call + ": what " + what, x, what <= first.length ? first[what - 1] : -1, y -> y.found(n, asked));
        }
    }

    /** Promise 33: n 0 .. 3, what 0 .. 2 n. */
    private static void foundOfNone() {
        GiftDuel x = Edges.halls(2);
        Edges.asked("found's n", 0, 3, x, (y, n) -> y.found(n, 0));
        for (int n = 0; n <= 3; n++) {
            int gifts = n;
            Edges.asked("found's what of " + n, 0, 2 * n, x, (y, what) -> y.found(gifts, what));
        }
    }

    /** "ROWS of just n GIFTS 0": one, if all are held as TOLD, else none. */
    private static void foundOfNoGifts() {
        GiftDuel x = Edges.halls(2);
        found("anyone", x, 0, 1);
        x.shelf(0, 0);
        x.shelf(1, 1);
        found("as it is", x, 0, 1);
        x.shelf(1, 0);
        found("not as it is", x, 0, 0);
        x.give(1, 0);
        found("as it is now", x, 0, 1);
    }

    /** Without GOODS there is a ROW of no GIFTS alone; with one LORD, too. */
    private static void foundOfNoGoods() {
        GiftDuel x = new GiftDuel();
        found("without LORDS", x, 0, 1);
        found("without LORDS", x, 1, 0);
        x.lord(0, 0);
        x.lord(0, 0);
        found("without GOODS", x, 3, 0);
        GiftDuel one = Edges.halls(1);
        found("with one LORD", one, 0, 1);
        found("with one LORD", one, 1, 0);
        found("with one LORD", one, 2, 0);
    }

    /** "NONE (none, for these)": 0 ROWS, no first. */
    private static void foundNoRow() {
        GiftDuel x = Edges.halls(4);
        for (int i = 0; i < 4; i++) {
            x.shelf(i, (i + 1) % 4);
        }
        for (int n = 0; n <= 3; n++) {
            found("four GOODS by " + n, x, n, 0);
        }
        x.shelf(0, -1);
        found("three by three", x, 3, 6, 1, 2, 2, 3, 3, 0);
        found("three by two", x, 2, 0);
    }

    /** "ROWS of just n GIFTS": neither fewer nor more; a GOOD may be given again, and back. */
    private static void foundJustSoMany() {
        GiftDuel x = Edges.halls(2);
        x.shelf(0, 0);
        x.shelf(1, 1);
        found("none", x, 0, 1);
        found("one", x, 1, 0);
        found("there and back", x, 2, 2, 0, 1, 0, 0);
        found("three", x, 3, 0);
        GiftDuel y = Edges.hall(3);
        y.good(0, 1, 0);
        y.shelf(0, 1);
        found("straight", y, 1, 1, 0, 1);
        found("by another", y, 2, 1, 0, 2, 0, 1);
        found("by two others", y, 3, 3, 0, 1, 0, 0, 0, 1);
    }

    /** "the first by GOODS, then LORDS". */
    private static void foundFirst() {
        GiftDuel x = Edges.halls(3);
        found("of all", x, 1, 6, 0, 1);
        found("of all", x, 2, 36, 0, 1, 0, 0);
        found("of all", x, 3, 216, 0, 1, 0, 0, 0, 1);
        x.shelf(2, 0);
        found("its turn comes last", x, 3, 48 + 12 + 3, 0, 1, 0, 0, 2, 0);
        x.shelf(0, 2);
        found("both", x, 2, 2, 0, 2, 2, 0);
        found("both and one more", x, 3, 12 + 3 + 3, 0, 1, 0, 2, 2, 0);
    }

    /** "(none BARRED in this YEAR, GIVEN as it is now ..": asked of who holds it then. */
    private static void foundBarred() {
        GiftDuel x = Edges.hall(3);
        x.good(0, 1, 0);
        x.shelf(0, 1);
        x.terms(0, 4);
        Check.rule(x, "bars if giver = 0 and to = 1");
        found("straight is BARRED", x, 1, 0);
        found("round is not", x, 2, 1, 0, 2, 0, 1);
        Check.rule(x, "bars if year > 4");
        found("not in this YEAR", x, 1, 1, 0, 1);
        x.terms(0, 5);
        found("in this YEAR", x, 1, 0);
        Check.rule(x, "bars if given > 0");
        found("GIVEN as it is now", x, 3, 3, 0, 1, 0, 0, 0, 1);
        x.give(0, 1);
        found("GIVEN now", x, 0, 1);
        found("GIVEN now", x, 2, 0);
    }

    /** "SECOND HAND or not)"; a GIFT is of none RUINED and to none RUINED. */
    private static void foundSecondHandOrNot() {
        GiftDuel x = Edges.hall(3);
        x.good(0, 1, 0);
        x.give(0, 2);
        x.shelf(0, 1);
        found("SECOND HAND", x, 1, 1, 0, 1);
        x.put(0, 0, 0);
        x.good(0, 1, 1);
        x.await();
        due("RUINED", x.of(0, 2), 1);
        found("still", x, 1, 1, 0, 1);
        x.shelf(0, 0);
        found("not to who is RUINED", x, 1, 0);
        x.shelf(0, 1);
        found("not by who is RUINED", x, 2, 0);
        x.shelf(0, -1);
        x.shelf(1, 1);
        found("not of who is RUINED", x, 1, 0);
    }

    /** The most there are: 16 GOODS, six LORDS, three GIFTS. */
    private static void foundMost() {
        GiftDuel x = Edges.hall(6);
        for (int i = 0; i < 16; i++) {
            x.good(i % 6, 1, 0);
        }
        found("one", x, 1, 80, 0, 1);
        found("two", x, 2, 6400, 0, 1, 0, 0);
        found("three", x, 3, 512000, 0, 1, 0, 0, 0, 1);
        x.shelf(15, 0);
        found("the last one", x, 1, 1, 15, 0);
        found("none by none", x, 0, 0);
        x.shelf(15, 3);
        x.shelf(0, 1);
        x.shelf(1, 2);
        found("two by one", x, 1, 0);
        x.shelf(0, -1);
        x.shelf(1, -1);
        x.shelf(15, 0);
        x.shelf(0, 5);
        found("the first one and the last one", x, 2, 2, 0, 5, 15, 0);
    }

    /** Promise 34: "NONE (the same LORD)": no such LORD, no such i. */
    private static void beatsOfNone() {
        GiftDuel x = Edges.hall(3);
        x.good(0, 10, 0);
        x.good(0, 11, 0);
        Edges.none("the same", x, y -> y.beats(0, 0, -1));
        Edges.none("the same", x, y -> y.beats(2, 2, -1));
        Edges.asked("beats' LORD", 1, 2, x, (y, n) -> y.beats(n, 0, -1));
        Edges.asked("beats' other", 1, 2, x, (y, n) -> y.beats(0, n, -1));
        Edges.asked("beats' i", 0, 1, x, (y, n) -> n == -1 ? y.beats(0, 1, -2) : y.beats(0, 1, n));
        due("i NONE", x.beats(0, 1, -1), 2);
    }

    /** Who holds nothing is BEATEN by any, by one of WORTH 0, too; and BEATS nobody. */
    private static void beatsWithoutGoods() {
        GiftDuel x = Edges.hall(2);
        Edges.unchanged("neither", x, 0, y -> y.beats(0, 1, -1));
        x.good(0, 0, 0);
        Edges.unchanged("by WORTH 0", x, 1, y -> y.beats(0, 1, -1));
        Edges.unchanged("that one", x, 0, y -> y.beats(0, 1, 0));
        Edges.unchanged("nobody", x, 0, y -> y.beats(1, 0, -1));
        Edges.none("nobody's first", x, y -> y.beats(1, 0, 0));
        GiftDuel z = Edges.hall(2);
        z.good(1, 0, 0);
        Edges.unchanged("LORD 0 holds nothing", z, 1, y -> y.beats(1, 0, -1));
        Edges.unchanged("nobody", z, 0, y -> y.beats(0, 1, -1));
        z.good(0, 0, 0);
        Edges.unchanged("0 is no more than 0", z, 0, y -> y.beats(0, 1, -1) + y.beats(1, 0, -1));
        z.good(0, 1, 0);
        z.give(0, 0);
        Edges.unchanged("of all it holds", z, 0, y -> y.beats(1, 0, -1));
    }

    /** "WORTH more .. than any that one holds": as much is no more; held, be it SECOND HAND; WORTH to one another. */
    private static void beatsMoreThanAny() {
        GiftDuel x = Edges.hall(3);
        x.good(0, 10, 0);
        x.good(1, 10, 0);
        x.good(0, 11, 0);
        x.good(0, 9, 0);
        x.good(2, 12, 0);
        due("one", x.beats(0, 1, -1), 1);
        due("that one", x.beats(0, 1, 0), 2);
        due("no second", x.beats(0, 1, 1), -1);
        due("not the other way", x.beats(1, 0, -1), 0);
        due("of three LORDS", x.beats(2, 0, -1) * 10 + x.beats(2, 1, -1), 11);
        GiftDuel z = Edges.hall(2);
        z.good(1, 50, 0);
        z.good(0, 40, 0);
        z.good(1, 30, 0);
        due("the first of its GOODS counts", z.beats(0, 1, -1), 0);
        due("the first of its own, too", z.beats(1, 0, 0), 0);
        x.give(4, 1);
        due("more than SECOND HAND, too", x.beats(0, 1, -1), 0);
        due("by SECOND HAND", x.beats(1, 0, 0), 4);
        Check.rule(x, "worth 50 if giver = 0 and to = 1; worth 60 if to = 2; bars");
        due("to that one, be it BARRED or not", x.beats(0, 1, -1), 3);
        due("by number", x.beats(0, 1, 2), 3);
        due("the other way", x.beats(1, 0, -1), 0);
    }
}
