/** Terms I: how many there are, how much they can be, by what a call is REFUSED. A test for each bound it names. */
public final class EdgesOneTest {
    public static void main(String[] args) {
        lordsSixAtMost();
        grain();
        harvest();
        ruinedOrNotAtFirst();
        goodsSixteenAtMost();
        ownerIsTheHolderAtFirstAndStays();
        base();
        keep();
        givenHowOften();
        heraldsFiveAtMost();
        price();
        roadsTwelveAtMost();
        roadsBetweenUnlikeLords();
        days();
        thieves();
        termsAtFirst();
        year();
        grace();
        mood();
        noSuchLord();
        noSuchGood();
        noSuchLaw();
        noSuchImage();
        firstOfTheRefusals();
        refusedIsForgottenByTheNext();
        Check.finish("EdgesOneTest");
    }

    private static void due(String call, long got, long want) {
        Check.due(call, got, want);
    }

    /** "LORDS 0 .. 5 (6 at most)". */
    private static void lordsSixAtMost() {
        GiftDuel x = new GiftDuel();
        for (int i = 0; i <= 5; i++) {
            due("LORD " + i, x.lord(i, 9 - i), i);
            due("so many", x.count(0), i + 1);
        }
        Edges.refused("a seventh LORD", x, -5, y -> y.lord(0, 0));
        Edges.refused("a seventh LORD of most", x, -5, y -> y.lord(9999, 99));
        for (int i = 0; i <= 5; i++) {
            due("GRAIN of LORD " + i, x.of(i, 0), i);
            due("HARVEST of LORD " + i, x.of(i, 1), 9 - i);
        }
    }

    /** "GRAIN 0 .. 9,999": of lord(), of put(). */
    private static void grain() {
        Edges.bounds("lord's GRAIN", 0, 9999, -1, x -> 0, (x, n) -> x.lord(n, 0));
        Edges.bounds("put's GRAIN", 0, 9999, -1, x -> x.lord(5, 5), (x, n) -> x.put(0, 0, n));
        GiftDuel x = new GiftDuel();
        x.lord(0, 0);
        x.lord(9999, 0);
        due("GRAIN 0 stands", x.of(0, 0), 0);
        due("GRAIN 9,999 stands", x.of(1, 0), 9999);
        due("put tells 0", x.put(0, 0, 9999), 0);
        due("put tells 9,999", x.put(1, 0, 0), 9999);
        due("put to 9,999", x.of(0, 0), 9999);
        due("put to 0", x.of(1, 0), 0);
    }

    /** "HARVEST 0 .. 99": of lord(), of put(). */
    private static void harvest() {
        Edges.bounds("lord's HARVEST", 0, 99, -1, x -> 0, (x, n) -> x.lord(0, n));
        Edges.bounds("put's HARVEST", 0, 99, -1, x -> x.lord(5, 5), (x, n) -> x.put(0, 1, n));
        GiftDuel x = new GiftDuel();
        x.lord(0, 0);
        x.lord(0, 99);
        due("HARVEST 0 stands", x.of(0, 1), 0);
        due("HARVEST 99 stands", x.of(1, 1), 99);
        due("put tells 0", x.put(0, 1, 99), 0);
        due("put tells 99", x.put(1, 1, 0), 99);
        due("put to 99", x.of(0, 1), 99);
        due("put to 0", x.of(1, 1), 0);
        Edges.refused("HARVEST as much as GRAIN can be", x, -1, y -> y.put(0, 1, 9999));
    }

    /** "RUINED or not (at first)": a LORD without GRAIN is not, and put() makes none so, nor takes it back. */
    private static void ruinedOrNotAtFirst() {
        GiftDuel x = new GiftDuel();
        x.lord(0, 0);
        due("not at first", x.of(0, 2), 0);
        x.put(0, 0, 0);
        due("not by put", x.of(0, 2), 0);
        x.good(0, 1, 1);
        due("not by a GOOD that costs", x.of(0, 2), 0);
        x.await();
        due("but by a YEAR", x.of(0, 2), 1);
        x.put(0, 0, 9999);
        due("GRAIN does not take it back", x.of(0, 2), 1);
        due("nor do other LORDS begin so", x.of(x.lord(0, 0), 2), 0);
    }

    /** "GOODS 0 .. 15 (16 at most)": by good() and by row(). */
    private static void goodsSixteenAtMost() {
        GiftDuel x = Edges.hall(2);
        for (int i = 0; i <= 15; i++) {
            due("GOOD " + i, x.good(i % 2, 80 + i, i), i);
            due("so many", x.count(1), i + 1);
        }
        Edges.refused("a seventeenth GOOD", x, -5, y -> y.good(0, 0, 0));
        for (int i = 0; i <= 15; i++) {
            due("BASE of GOOD " + i, x.at(i, 2), 80 + i);
            due("KEEP of GOOD " + i, x.at(i, 3), i);
        }
        GiftDuel y = Edges.hall(1);
        for (int i = 0; i < 15; i++) {
            y.good(0, 1, 1);
        }
        Check.typeBytes(y, new byte[] {0, 2, 2, 0, 3, 3});
        due("row's sixteenth", y.row(), 1);
        due("row's seventeenth is DROSS", y.dross(), 1);
        due("the first of both came", y.at(15, 2), 2);
    }

    /** "an OWNER (the HOLDER at first; stays)". */
    private static void ownerIsTheHolderAtFirstAndStays() {
        GiftDuel x = Edges.hall(3);
        x.good(2, 1, 1);
        due("HOLDER", x.at(0, 0), 2);
        due("OWNER at first", x.at(0, 1), 2);
        x.give(0, 1);
        due("HOLDER by a gift", x.at(0, 0), 1);
        due("OWNER stays", x.at(0, 1), 2);
        x.give(0, 0);
        due("OWNER stays at SECOND HAND, too", x.at(0, 1), 2);
        x.give(0, 2);
        due("HOLDER again", x.at(0, 0), 2);
    }

    /** "BASE 0 .. 99". */
    private static void base() {
        Edges.bounds("BASE", 0, 99, -1, x -> x.lord(0, 0), (x, n) -> x.good(0, n, 0));
        GiftDuel x = Edges.hall(2);
        x.good(0, 0, 0);
        x.good(0, 99, 0);
        due("BASE 0 stands", x.at(0, 2) + x.asks(0, 1, 0), 0);
        due("BASE 99 stands", x.at(1, 2) + x.asks(1, 1, 0), 198);
    }

    /** "KEEP 0 .. 20". */
    private static void keep() {
        Edges.bounds("KEEP", 0, 20, -1, x -> x.lord(0, 0), (x, n) -> x.good(0, 0, n));
        GiftDuel x = Edges.hall(1);
        x.good(0, 0, 0);
        due("KEEP 0 stands", x.at(0, 3) + x.of(0, 7), 0);
        x.good(0, 0, 20);
        due("KEEP 20 stands", x.at(1, 3) + x.of(0, 7), 40);
    }

    /** "GIVEN: how often it was given": 0 at first, SECOND HAND counts, too, and what does nothing. */
    private static void givenHowOften() {
        GiftDuel x = Edges.hall(3);
        x.good(0, 10, 0);
        x.good(1, 5, 0);
        due("GIVEN at first", x.at(0, 4), 0);
        x.give(0, 1);
        due("GIVEN once", x.at(0, 4), 1);
        x.give(1, 0);
        due("a gift that does nothing is given, too", x.at(1, 4), 1);
        x.give(0, 2);
        due("SECOND HAND is given, too", x.at(0, 4), 2);
        x.give(0, 2);
        due("what is REFUSED is not", x.at(0, 4), 2);
        x.await();
        due("nor does a YEAR count", x.at(0, 4), 2);
    }

    /** "HERALDS 0 .. 4 (5 at most)". */
    private static void heraldsFiveAtMost() {
        GiftDuel x = Edges.halls(1);
        for (int i = 0; i <= 4; i++) {
            due("HERALD " + i, x.herald(i + 1), i);
            due("so many", x.count(2), i + 1);
        }
        Edges.refused("a sixth HERALD", x, -5, y -> y.herald(1));
        Check.holds("the fifth TELLS", x.tells(4, 0) == 10);
        Edges.none("the sixth TELLS nothing", x, y -> y.tells(5, 0));
    }

    /** "a PRICE 1 .. 9". */
    private static void price() {
        Edges.bounds("PRICE", 1, 9, -1, x -> 0, (x, n) -> x.herald(n));
        for (int price = 1; price <= 9; price += 8) {
            GiftDuel x = Edges.hall(1);
            x.good(0, 10, 0);
            x.good(0, 14, 0);
            x.herald(price);
            due("PRICE " + price + " stands", x.bribe(0, 1, 0), 5 * price);
        }
    }

    /** "ROADS 0 .. 11 (12 at most)". */
    private static void roadsTwelveAtMost() {
        GiftDuel x = Edges.hall(6);
        for (int i = 0; i <= 10; i++) {
            due("ROAD " + i, x.road(0, 1, 30, 10), i);
            due("so many", x.count(3), i + 1);
        }
        due("ROAD 11", x.road(4, 5, 7, 3), 11);
        Edges.refused("a thirteenth ROAD", x, -5, y -> y.road(0, 5, 1, 1));
        due("the twelfth is a way", x.way(4, 5, 0), 70000);
        due("the thirteenth is none", x.way(0, 5, 0), -1);
    }

    /** "between two unlike LORDS": both ways. */
    private static void roadsBetweenUnlikeLords() {
        GiftDuel x = Edges.hall(2);
        Edges.refused("a ROAD from 0 to 0", x, -1, y -> y.road(0, 0, 1, 1));
        Edges.refused("a ROAD from 1 to 1", x, -1, y -> y.road(1, 1, 1, 1));
        Edges.refused("a ROAD between none and none", x, -1, y -> y.road(7, 7, 1, 1));
        due("a ROAD", x.road(0, 1, 3, 1), 0);
        due("there", x.way(0, 1, 1), 3);
        due("and back", x.way(1, 0, 1), 3);
        due("another one back", x.road(1, 0, 2, 1), 1);
        due("that one there", x.way(0, 1, 1), 2);
    }

    /** "DAYS 1 .. 30". */
    private static void days() {
        Edges.bounds("DAYS", 1, 30, -1, x -> x.lord(0, 0) + x.lord(0, 0), (x, n) -> x.road(0, 1, n, 0));
        GiftDuel x = Edges.hall(3);
        x.road(0, 1, 1, 0);
        x.road(1, 2, 30, 0);
        due("DAYS 1, 30 stand", x.way(0, 2, 1), 31);
    }

    /** "THIEVES 0 .. 10". */
    private static void thieves() {
        Edges.bounds("THIEVES", 0, 10, -1, x -> x.lord(0, 0) + x.lord(0, 0), (x, n) -> x.road(0, 1, 1, n));
        GiftDuel x = Edges.hall(3);
        x.road(0, 1, 1, 0);
        x.road(1, 2, 1, 10);
        due("THIEVES 0 stand", x.way(0, 1, 0), 100000);
        due("THIEVES 10 stand", x.way(1, 2, 0), -1);
    }

    /** "0 YEAR (0 at first), 1 GRACE (1), 2 MOOD (0)". */
    private static void termsAtFirst() {
        due("YEAR at first", new GiftDuel().terms(0, 5), 0);
        due("GRACE at first", new GiftDuel().terms(1, 3), 1);
        due("MOOD at first", new GiftDuel().terms(2, 5), 0);
        GiftDuel x = new GiftDuel();
        Edges.refused("a TERM -1", x, -1, y -> y.terms(-1, 1));
        Edges.refused("a TERM 3", x, -1, y -> y.terms(3, 1));
        Edges.refused("a TERM far", x, -1, y -> y.terms(Integer.MAX_VALUE, 1));
        Edges.refused("a TERM far below", x, -1, y -> y.terms(Integer.MIN_VALUE, 1));
    }

    /** "YEAR 0 .. 999". */
    private static void year() {
        Edges.bounds("YEAR", 0, 999, -1, x -> 0, (x, n) -> x.terms(0, n));
        GiftDuel x = new GiftDuel();
        x.terms(0, 999);
        due("YEAR 999 stands", x.count(14), 999);
        due("YEAR 999 is told", x.terms(0, 0), 999);
        due("YEAR 0 stands", x.count(14), 0);
    }

    /** "GRACE 1 .. 3". */
    private static void grace() {
        Edges.bounds("GRACE", 1, 3, -1, x -> 0, (x, n) -> x.terms(1, n));
        GiftDuel x = new GiftDuel();
        x.terms(1, 3);
        due("GRACE 3 stands", x.count(15), 3);
        due("GRACE 3 is told", x.terms(1, 1), 3);
        due("GRACE 1 stands", x.count(15), 1);
    }

    /** "MOOD 0 .. 9". */
    private static void mood() {
        Edges.bounds("MOOD", 0, 9, -1, x -> 0, (x, n) -> x.terms(2, n));
        GiftDuel x = new GiftDuel();
        x.terms(2, 9);
        due("MOOD 9 stands", x.count(16), 9);
        due("MOOD 9 is told", x.terms(2, 0), 9);
        due("MOOD 0 stands", x.count(16), 0);
    }

    /** "-2 there is no such LORD": of each call that names one and can be REFUSED by it. */
    private static void noSuchLord() {
        GiftDuel x = Edges.halls(2);
        for (int lord : new int[] {2, 5, 6, Integer.MAX_VALUE, -1, Integer.MIN_VALUE}) {
            Edges.refused("put of LORD " + lord, x, -2, y -> y.put(lord, 0, 1));
            Edges.refused("good of LORD " + lord, x, -2, y -> y.good(lord, 1, 1));
            Edges.refused("give to LORD " + lord, x, -2, y -> y.give(0, lord));
            Edges.refused("road from LORD " + lord, x, -2, y -> y.road(lord, 1, 1, 1));
            Edges.refused("road to LORD " + lord, x, -2, y -> y.road(0, lord, 1, 1));
            if (lord > 0) {
                Edges.refused("shelf of LORD " + lord, x, -2, y -> y.shelf(0, lord));
            }
        }
    }

    /** "-2 there is no such GOOD". */
    private static void noSuchGood() {
        GiftDuel x = Edges.halls(2);
        for (int good : new int[] {2, 15, 16, Integer.MAX_VALUE, -1, Integer.MIN_VALUE}) {
            Edges.refused("give of GOOD " + good, x, -2, y -> y.give(good, 1));
            Edges.refused("shelf of GOOD " + good, x, -2, y -> y.shelf(good, 1));
            Edges.refused("shelf of GOOD " + good + " by anyone", x, -2, y -> y.shelf(good, -1));
        }
    }

    /** "-2 there is no such LAW". */
    private static void noSuchLaw() {
        GiftDuel x = Edges.halls(2);
        Edges.refused("force without LAWS", x, -2, y -> y.force(0));
        Check.rule(x, "worth 3");
        for (int law : new int[] {1, 5, 6, Integer.MAX_VALUE, -2, Integer.MIN_VALUE}) {
            Edges.refused("force of LAW " + law, x, -2, y -> y.force(law));
        }
        due("the LAW stays in FORCE", x.count(13), 0);
    }

    /** "-2 there is no such IMAGE": one that was not kept; a number that can't be one is -1. */
    private static void noSuchImage() {
        GiftDuel x = Edges.halls(2);
        for (int k = 0; k <= 1; k++) {
            int image = k;
            Edges.refused("back to " + k, x, -2, y -> y.back(image));
        }
        x.image(1);
        Edges.refused("back to 0 still", x, -2, y -> y.back(0));
        due("back to 1", x.back(1), 0);
        for (int k : new int[] {-1, 2, Integer.MAX_VALUE, Integer.MIN_VALUE}) {
            Edges.refused("image " + k, x, -1, y -> y.image(k));
            Edges.refused("back to " + k, x, -1, y -> y.back(k));
        }
    }

    /** "The first of these in that order": a call that more than one could refuse. */
    private static void firstOfTheRefusals() {
        GiftDuel x = Edges.hall(6);
        for (int i = 0; i < 16; i++) {
            x.good(i % 6, 1, 1);
        }
        for (int i = 0; i < 12; i++) {
            x.road(0, 1, 1, 1);
        }
        for (int i = 0; i < 5; i++) {
            x.herald(1);
        }
        Edges.refused("lord: -1, -5", x, -1, y -> y.lord(10000, 0));
        Edges.refused("lord: -1, -5", x, -1, y -> y.lord(0, 100));
        Edges.refused("put: -1, -2", x, -1, y -> y.put(6, 2, 0));
        Edges.refused("put: -1, -2", x, -1, y -> y.put(-1, 1, 100));
        Edges.refused("good: -1, -2, -5", x, -1, y -> y.good(6, 100, 0));
        Edges.refused("good: -1, -2, -5", x, -1, y -> y.good(6, 0, 21));
        Edges.refused("good: -1, -5", x, -1, y -> y.good(0, -1, 0));
        Edges.refused("good: -2, -5", x, -2, y -> y.good(6, 0, 0));
        Edges.refused("good: -5", x, -5, y -> y.good(5, 0, 0));
        Edges.refused("herald: -1, -5", x, -1, y -> y.herald(0));
        Edges.refused("road: -1, -2, -5", x, -1, y -> y.road(6, 6, 1, 1));
        Edges.refused("road: -1, -2, -5", x, -1, y -> y.road(6, 7, 0, 1));
        Edges.refused("road: -1, -2, -5", x, -1, y -> y.road(6, 7, 1, 11));
        Edges.refused("road: -1, -5", x, -1, y -> y.road(3, 3, 1, 1));
        Edges.refused("road: -2, -5", x, -2, y -> y.road(0, 6, 1, 1));
        Edges.refused("road: -5", x, -5, y -> y.road(0, 5, 1, 1));
        Edges.refused("shelf: -1, -2", x, -1, y -> y.shelf(16, -2));
        firstOfTheRefusalsOfDeeds();
    }

    private static void firstOfTheRefusalsOfDeeds() {
        GiftDuel x = new GiftDuel();
        Edges.refused("generation: -1, -3", x, -1, y -> y.generation(-1, 1));
        Edges.refused("generation: -1, -3", x, -1, y -> y.generation(0, 0));
        Edges.refused("generation: -3", x, -3, y -> y.generation(0, 1));
        Edges.refused("back: -1, -2", x, -1, y -> y.back(2));
        GiftDuel r = new GiftDuel();
        r.lord(0, 0);
        r.lord(9, 0);
        r.good(0, 1, 1);
        r.good(1, 1, 1);
        r.await();
        Edges.refused("give by one that is RUINED, to none", r, -2, y -> y.give(0, 2));
        Edges.refused("give of none, to one that is RUINED", r, -2, y -> y.give(2, 0));
        Check.rule(r, "bars");
        Edges.refused("give of a BARRED one, to none", r, -2, y -> y.give(1, -1));
        GiftDuel f = Edges.hall(1);
        for (int i = 0; i < 6; i++) {
            Check.law(f, "bars");
        }
        Edges.refused("law: -5, -6 of an empty TAPE", f, -5, y -> y.law());
        Check.type(f, "baars");
        due("law: -5, -6 of what is no LAW", f.law(), -5);
    }

    /** status() is of the latest call alone; what was counted stays counted. */
    private static void refusedIsForgottenByTheNext() {
        GiftDuel x = Edges.hall(1);
        x.lord(-1, 0);
        due("status", x.status(), -1);
        x.of(0, 0);
        due("a question leaves it", x.status(), -1);
        x.lord(0, 0);
        due("what is not REFUSED takes it away", x.status(), 0);
        due("it stays counted", x.count(8), 1);
    }
}
