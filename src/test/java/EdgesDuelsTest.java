/** Terms III, duels, granaries and sieges, and promises 23 to 25: a test for each boundary case that a sentence names. */
public final class EdgesDuelsTest {
    public static void main(String[] args) {
        duelOfNone();
        duelWithoutGoods();
        heldAsOwners();
        sixLowest();
        barredAside();
        moreWorthThanTheLast();
        whoCantPay();
        whoCantGive();
        onPaper();
        inThisYear();
        ruinedOrNot();
        asWellAsCanBe();
        lowestOfTheFirst();
        howManyGifts();
        twelveGifts();
        ruinYears();
        ruinOfNone();
        ruinBeyond999();
        ruinHarvestAtMost();
        justNotRuinedFrom9999();
        ruinIfNothingMoreIsGiven();
        siegeOfNone();
        siegeWithout();
        siegeYears();
        siegeOfWhatIsHeld();
        noneToGive();
        siegeTenLowest();
        siegeBarredAside();
        siegeOfOwners();
        siegeFewestLeastLowest();
        siegeWorthNow();
        siegeBeyond999();
        siegeOfRuined();
        Check.finish("EdgesDuelsTest");
    }

    private static void due(String call, long got, long want) {
        Check.due(call, got, want);
    }

    /** All four answers of a DUEL of LORDS 0 and 1. */
    private static void duel(String call, GiftDuel x, int wins, int many, int lowest, int gifts) {
        Edges.unchanged(call + ": who WINS", x, wins, y -> y.duel(0, 1, 0));
        Edges.unchanged(call + ": by how many", x, many, y -> y.duel(0, 1, 1));
        Edges.unchanged(call + ": the lowest", x, lowest, y -> y.duel(0, 1, 2));
        Edges.unchanged(call + ": gifts", x, gifts, y -> y.duel(0, 1, 3));
    }

    /** Promise 23: "NONE (the same LORD ..": no such LORD, another what, too. */
    private static void duelOfNone() {
        GiftDuel x = Edges.halls(3);
        for (int lord = 0; lord < 3; lord++) {
            int same = lord;
            for (int what = 0; what <= 3; what++) {
                int asked = what;
                Edges.none("duel(" + lord + ", " + lord + ")", x, y -> y.duel(same, same, asked));
            }
        }
        Edges.asked("duel's what", 0, 3, x, (y, n) -> y.duel(0, 1, n));
        Edges.asked("duel's first", 1, 2, x, (y, n) -> y.duel(n, 0, 0));
        Edges.asked("duel's other", 1, 2, x, (y, n) -> y.duel(0, n, 0));
    }

    /** "who can't give has lost": without GOODS the other one WINS at once; "none WINS, for 2": NONE. */
    private static void duelWithoutGoods() {
        GiftDuel x = Edges.hall(2);
        duel("neither has GOODS", x, 1, 0, -1, 0);
        x.good(1, 10, 0);
        duel("the first has none", x, 1, 0, -1, 0);
        x.good(0, 0, 0);
        duel("the first has one of WORTH 0", x, 1, 0, -1, 2);
        GiftDuel y = Edges.hall(2);
        y.good(0, 0, 0);
        duel("the other has none", y, 0, 1, 0, 1);
    }

    /** "by GOODS they hold as OWNERS": held alone, or owned alone, is not enough. */
    private static void heldAsOwners() {
        GiftDuel x = Edges.hall(3);
        x.good(2, 90, 0);
        x.good(0, 80, 0);
        x.give(0, 0);
        x.give(1, 2);
        duel("one held, one owned", x, 1, 0, -1, 0);
        x.give(1, 0);
        duel("held by its OWNER again", x, 0, 1, 1, 1);
    }

    /** "the 6 lowest numbers of each at most": of the first, of the other. */
    private static void sixLowest() {
        GiftDuel x = Edges.hall(2);
        for (int i = 0; i < 6; i++) {
            x.good(0, 10, 0);
        }
        x.good(1, 20, 0);
        x.good(0, 30, 0);
        duel("a seventh is not of them", x, 1, 0, -1, 2);
        x.give(0, 1);
        duel("but is the sixth if a lower one is away", x, 0, 6, 1, 3);
        GiftDuel y = Edges.hall(2);
        y.good(0, 20, 0);
        for (int i = 0; i < 5; i++) {
            y.good(1, 10, 0);
        }
        y.good(1, 30, 0);
        duel("the other's sixth is of them", y, 1, 0, -1, 2);
        GiftDuel z = Edges.hall(2);
        z.good(0, 20, 0);
        for (int i = 0; i < 6; i++) {
            z.good(1, 10, 0);
        }
        z.good(1, 30, 0);
        duel("the other's seventh is not", z, 0, 1, 0, 1);
    }

    /** "BARRED ones of these aside": of the six; a seventh does not come in their place. */
    private static void barredAside() {
        GiftDuel x = Edges.hall(2);
        for (int i = 0; i < 7; i++) {
            x.good(0, 10 + i, 0);
        }
        Check.rule(x, "bars if good < 5 and giver = 0 and to = 1");
        duel("one of six", x, 0, 1, 5, 1);
        Check.rule(x, "bars if good < 6 and giver = 0 and to = 1");
        duel("none of six", x, 1, 0, -1, 0);
        Check.rule(x, "bars if giver = 1");
        duel("BARRED of another", x, 0, 6, 0, 1);
    }

    /** "of more WORTH than the one given last": as much is no more; "begins with any": of WORTH 0, too. */
    private static void moreWorthThanTheLast() {
        GiftDuel x = Edges.hall(2);
        x.good(0, 20, 0);
        x.good(1, 20, 0);
        duel("as much", x, 0, 1, 0, 1);
        x.good(1, 21, 0);
        duel("one more", x, 1, 0, -1, 2);
        x.good(0, 22, 0);
        duel("and one more", x, 0, 2, 0, 3);
        GiftDuel y = Edges.hall(2);
        y.good(0, 0, 0);
        y.good(1, 0, 0);
        duel("0 is no more than 0", y, 0, 1, 0, 1);
    }

    /** "who is given one pays what it COSTS ..: who can't has lost": just enough is enough. */
    private static void whoCantPay() {
        GiftDuel x = Edges.hall(2);
        x.good(0, 10, 20);
        x.good(1, 50, 20);
        x.put(1, 0, 20);
        x.put(0, 0, 20);
        duel("both can", x, 1, 0, -1, 2);
        x.put(1, 0, 19);
        duel("the other can't", x, 0, 1, 0, 1);
        x.put(1, 0, 20);
        x.put(0, 0, 19);
        duel("the first can't then", x, 1, 0, -1, 2);
        x.good(0, 60, 0);
        duel("and can't give what it has", x, 0, 1, 2, 1);
    }

    /** What was paid is gone for the gifts behind it: of the other, of the first. */
    private static void whoCantGive() {
        GiftDuel x = Edges.hall(2);
        x.good(0, 10, 11);
        x.good(1, 20, 6);
        x.good(0, 30, 10);
        x.good(1, 40, 5);
        x.good(0, 50, 0);
        x.put(1, 0, 20);
        duel("the other can't pay 21 of 20", x, 0, 3, 0, 3);
        x.put(1, 0, 21);
        duel("but 21 of 21", x, 0, 3, 0, 5);
        x.put(0, 0, 10);
        duel("the first can't pay 11 of 10, so it gives the highest", x, 0, 3, 0, 3);
        x.put(0, 0, 11);
        duel("but 11 of 11", x, 0, 3, 0, 5);
    }

    /** "on paper": no HARVEST comes, no GRAIN goes. */
    private static void onPaper() {
        GiftDuel x = Edges.hall(2);
        x.put(1, 0, 9);
        x.put(1, 1, 99);
        x.good(0, 10, 10);
        duel("no HARVEST comes", x, 0, 1, 0, 1);
        due("GRAIN", x.of(1, 0), 9);
        due("HOLDER", x.at(0, 0), 0);
        due("GIVEN", x.at(0, 4), 0);
        due("challenges", x.count(5), 0);
        due("nothing to be undone", x.undo(), -3);
    }

    /** "in this YEAR"; "what it COSTS (GIVEN as it is now)": asked of who is given it. */
    private static void inThisYear() {
        GiftDuel x = Edges.halls(2);
        Check.rule(x, "worth year; worth 5 if good = 1; keeps year * given; keeps 99 if to = 0");
        x.terms(0, 5);
        duel("as much as 5", x, 0, 1, 0, 1);
        x.terms(0, 4);
        duel("less than 5", x, 1, 0, -1, 2);
        x.put(1, 0, 8);
        x.give(0, 1);
        x.give(0, 0);
        x.give(0, 1);
        x.give(0, 0);
        due("GIVEN", x.at(0, 4), 4);
        x.terms(0, 2);
        duel("twice four is eight", x, 1, 0, -1, 2);
        x.put(1, 0, 7);
        duel("of seven", x, 0, 1, 0, 1);
    }

    /** "RUINED or not does not matter". */
    private static void ruinedOrNot() {
        GiftDuel x = Edges.hall(2);
        x.put(0, 0, 0);
        x.put(1, 0, 0);
        x.good(0, 10, 1);
        x.good(1, 20, 1);
        x.await();
        due("both RUINED", x.of(0, 2) + x.of(1, 2), 2);
        duel("the other can't pay", x, 0, 1, 0, 1);
        x.put(1, 0, 1);
        duel("the other can", x, 1, 0, -1, 2);
    }

    /** "Who WINS if both give as well as can be": the best is neither the highest nor the lowest. */
    private static void asWellAsCanBe() {
        GiftDuel x = Edges.hall(2);
        x.good(0, 10, 0);
        x.good(0, 30, 0);
        x.good(0, 50, 0);
        x.good(1, 20, 0);
        x.good(1, 40, 0);
        x.good(1, 45, 0);
        duel("the highest WINS in the end", x, 0, 3, 0, 5);
        x.good(1, 60, 0);
        duel("the other's is higher", x, 1, 0, -1, 6);
        x.put(1, 0, 0);
        Check.rule(x, "keeps 0; keeps 1 if good = 1 and to = 1");
        duel("by what can't be paid", x, 0, 1, 1, 1);
    }

    /** "by how many of the first gifts (1), the lowest such GOOD (2)". */
    private static void lowestOfTheFirst() {
        GiftDuel x = Edges.hall(2);
        x.good(0, 5, 0);
        x.good(1, 30, 0);
        x.good(0, 30, 0);
        x.good(0, 31, 0);
        x.good(1, 35, 0);
        duel("none", x, 1, 0, -1, 4);
        x.good(0, 35, 0);
        x.good(0, 99, 0);
        duel("all five", x, 0, 5, 0, 5);
        Check.rule(x, "bars if good = 6");
        duel("one", x, 0, 1, 5, 1);
    }

    /** "if both give the lowest GOOD by which they WIN, or, if there is none, the lowest they can". */
    private static void howManyGifts() {
        GiftDuel x = Edges.hall(2);
        x.good(0, 10, 0);
        x.good(1, 40, 0);
        x.good(1, 20, 0);
        x.good(0, 50, 0);
        duel("the lowest in number, not in WORTH", x, 0, 2, 0, 3);
        GiftDuel y = Edges.hall(2);
        y.put(0, 0, 5);
        y.good(0, 10, 0);
        y.good(1, 20, 5);
        y.good(1, 30, 6);
        y.good(0, 40, 0);
        duel("the other gives what WINS, not the lowest", y, 0, 1, 3, 1);
        Check.rule(y, "bars if good = 3");
        duel("what can't be paid is a gift, too", y, 1, 0, -1, 2);
    }

    /** Six of each, each of more WORTH than the one ahead of it. */
    private static void twelveGifts() {
        GiftDuel x = Edges.hall(2);
        for (int i = 0; i < 12; i++) {
            x.good(i % 2, 10 + i, 0);
        }
        duel("all twelve", x, 1, 0, -1, 12);
        due("the other begins", x.duel(1, 0, 0), 1);
        due("by all six", x.duel(1, 0, 1), 6);
        due("the lowest", x.duel(1, 0, 2), 1);
        due("eleven", x.duel(1, 0, 3), 11);
    }

    /** Promise 24: "n YEARS on, 1 .. 99". */
    private static void ruinYears() {
        GiftDuel x = Edges.hall(1);
        x.good(0, 1, 1);
        Edges.unchanged("not by then", x, -1, y -> y.ruin(0, 99));
        Edges.unchanged("n 0", x, -1, y -> y.ruin(0, 0));
        x.put(0, 0, 98);
        Edges.unchanged("in 99", x, 99, y -> y.ruin(0, 99));
        Edges.unchanged("not in 98", x, -1, y -> y.ruin(0, 98));
        Edges.none("n 100", x, y -> y.ruin(0, 100));
        x.put(0, 0, 0);
        Edges.asked("n", 1, 99, x, (y, n) -> y.ruin(0, n));
        Edges.unchanged("in 1", x, 1, y -> y.ruin(0, 1));
    }

    /** Promise 24: "NONE (not by then, is so now)". */
    private static void ruinOfNone() {
        GiftDuel x = Edges.hall(2);
        x.put(0, 0, 0);
        x.good(0, 1, 1);
        Edges.asked("LORD", 0, 0, x, (y, n) -> y.ruin(n, 9));
        due("without GOODS", x.ruin(1, 99), -1);
        x.await();
        Edges.none("is so now", x, y -> y.ruin(0, 99));
        x.put(0, 0, 5);
        Edges.none("is so still", x, y -> y.ruin(0, 99));
    }

    /** "the YEAR (both on paper, beyond 999, too)". */
    private static void ruinBeyond999() {
        GiftDuel x = Edges.hall(1);
        x.good(0, 1, 20);
        x.terms(0, 999);
        Edges.unchanged("beyond 999", x, 1005, y -> y.ruin(0, 99));
        Check.rule(x, "keeps 0; keeps 99 if year > 1000+50; keeps 99 if year = 1000");
        Edges.unchanged("COSTS of YEARS beyond 999", x, 1051, y -> y.ruin(0, 99));
        Edges.unchanged("not by then", x, -1, y -> y.ruin(0, 51));
        Edges.unchanged("just then", x, 1051, y -> y.ruin(0, 52));
    }

    /** HARVEST to 9,999 at most, ahead of paying; what is just enough is enough. */
    private static void ruinHarvestAtMost() {
        GiftDuel x = new GiftDuel();
        x.lord(9999, 99);
        x.good(0, 1, 0);
        Check.rule(x, "keeps 99; keeps 0 if year < 2");
        due("HARVEST and COSTS alike", x.ruin(0, 99), -1);
        x.put(0, 0, 0);
        x.put(0, 1, 33);
        due("33 and 33, less 99, and so on", x.ruin(0, 99), 2);
        x.put(0, 0, 33);
        due("99 less 99", x.ruin(0, 99), 3);
        due("not RUINED by nothing left", x.ruin(0, 2), -1);
    }

    /** 9,999 and HARVEST 99 are 9,999; sixteen times 99 for six YEARS leave 1,089 with the seventh's HARVEST. */
    private static void justNotRuinedFrom9999() {
        for (int more = 0; more <= 1; more++) {
            GiftDuel x = new GiftDuel();
            x.lord(9999, 99);
            x.lord(9999, 99);
            for (int i = 0; i < 16; i++) {
                x.good(1, 10, 0);
            }
            Check.rule(x, "keeps 0; keeps 99 if year < 7; keeps 99 if year = 7 and good < 11; keeps " + more
                    + " if year = 7 and good = 11");
            due("1,089 and " + more, x.ruin(1, 9), more == 1 ? 7 : -1);
            GiftDuel y = new GiftDuel();
            y.lord(9999, 99);
            y.lord(9999, 99);
            for (int i = 0; i < 16; i++) {
                y.good(i < 10 ? 0 : 1, 10, 0);
            }
            Check.rule(y, "keeps 0; keeps 99 if year < 7; keeps 99 if year = 7 and good < 11; keeps " + more
                    + " if year = 7 and good = 11");
            siege("1,089 and " + more, y, 9, more == 1 ? 10 : -1, more == 1 ? 100 : -1, more == 1 ? 1023 : -1);
            siege("1,089 and " + more, y, 6, -1, -1, -1);
        }
    }

    /** "if nothing more is given": by GOODS it holds now, SECOND HAND, too; others' RUIN does not matter. */
    private static void ruinIfNothingMoreIsGiven() {
        GiftDuel x = Edges.hall(2);
        x.good(0, 1, 20);
        due("holds it", x.ruin(0, 99), 6);
        x.give(0, 1);
        due("holds it no more", x.ruin(0, 99), -1);
        due("holds it now", x.ruin(1, 99), 6);
        due("nothing was changed", x.of(1, 0) + x.count(14), 100);
    }

    /** All three answers of a SIEGE of LORD 0 against LORD 1. */
    private static void siege(String call, GiftDuel x, int n, int many, int worth, int bits) {
        Edges.unchanged(call + ": how many", x, many, y -> y.siege(0, 1, n, 0));
        Edges.unchanged(call + ": WORTH", x, worth, y -> y.siege(0, 1, n, 1));
        Edges.unchanged(call + ": which", x, bits, y -> y.siege(0, 1, n, 2));
    }

    /** Promise 25: "NONE (it can't be ..": the same LORD, no such LORD, another n or what, too. */
    private static void siegeOfNone() {
        GiftDuel x = Edges.hall(3);
        x.put(1, 0, 0);
        x.good(0, 10, 20);
        Edges.asked("siege's what", 0, 2, x, (y, n) -> y.siege(0, 1, 9, n));
        Edges.asked("siege's n", 1, 9, x, (y, n) -> y.siege(0, 1, n, 0));
        Edges.asked("siege's from", 0, 0, x, (y, n) -> y.siege(n, 1, 9, 0));
        Edges.asked("siege's to", 1, 1, x, (y, n) -> y.siege(0, n, 4, 0));
        Edges.none("the same", x, y -> y.siege(0, 0, 9, 0));
        Edges.none("the same", x, y -> y.siege(1, 1, 9, 0));
        x.put(1, 0, 180);
        siege("just enough for nine YEARS", x, 9, -1, -1, -1);
        x.put(1, 0, 179);
        siege("not enough", x, 9, 1, 10, 1);
        siege("enough for eight", x, 8, -1, -1, -1);
        siege("nobody to give", Edges.hall(2), 9, -1, -1, -1);
    }

    /** "0 GOODS, if it is so without". */
    private static void siegeWithout() {
        GiftDuel x = Edges.hall(2);
        x.put(1, 0, 39);
        x.good(0, 10, 20);
        x.good(1, 10, 20);
        siege("in two YEARS without", x, 2, 0, 0, 0);
        siege("in one with", x, 1, 1, 10, 1);
        GiftDuel y = Edges.hall(2);
        y.put(1, 0, 0);
        y.good(1, 10, 20);
        siege("none to give, none needed", y, 1, 0, 0, 0);
    }

    /** "RUINED within n YEARS 1 .. 9": COSTS of each of them, HARVEST ahead of paying. */
    private static void siegeYears() {
        for (int n = 1; n <= 9; n++) {
            GiftDuel x = Edges.hall(2);
            x.put(1, 1, 9);
            x.put(1, 0, n);
            x.good(0, 10, 10);
            siege("one less each YEAR, within " + n, x, n, -1, -1, -1);
            if (n < 9) {
                siege("within " + (n + 1), x, n + 1, 1, 10, 1);
            }
        }
        GiftDuel x = Edges.hall(2);
        x.put(1, 0, 9999);
        x.put(1, 1, 99);
        for (int i = 0; i < 10; i++) {
            x.good(0, 10, 0);
        }
        Check.rule(x, "keeps 99");
        siege("HARVEST to 9,999 at most", x, 9, -1, -1, -1);
        x.put(1, 0, 9999 - 900);
        siege("9,099 and 99, less 990 each", x, 9, -1, -1, -1);
        x.put(1, 0, 8018);
        siege("just enough: 8,018 + 9 * 99 - 9 * 990", x, 9, 10, 100, 1023);
        x.put(1, 0, 8019);
        siege("and one more", x, 9, -1, -1, -1);
    }

    /** What the other one holds COSTS, too, in each YEAR what it COSTS then. */
    private static void siegeOfWhatIsHeld() {
        GiftDuel x = Edges.hall(2);
        x.good(0, 10, 1);
        x.good(1, 10, 0);
        x.put(1, 0, 30);
        x.terms(0, 6);
        Check.rule(x, "keeps 0; keeps 30 if good = 1 and to = 1 and year = 8; keeps 1 if good = 0 and to = 1 and year < 9");
        siege("not in YEAR 7", x, 1, -1, -1, -1);
        siege("in YEAR 8", x, 2, 1, 10, 1);
        Check.rule(x, "keeps 0; keeps 31 if good = 1 and to = 1 and year = 9");
        siege("not in YEAR 8", x, 2, -1, -1, -1);
        siege("in YEAR 9 without", x, 3, 0, 0, 0);
        due("RUINED then", x.ruin(1, 9), 9);
    }

    /** A GOOD that is not there is given by nobody, whatever the LAW tells of it. */
    private static void noneToGive() {
        GiftDuel x = Edges.hall(6);
        Check.rule(x, "worth 500; keeps 99");
        siege("without GOODS", x, 9, -1, -1, -1);
        duel("without GOODS", x, 1, 0, -1, 0);
        x.good(5, 1, 1);
        siege("with another's", x, 9, -1, -1, -1);
        duel("with another's", x, 1, 0, -1, 0);
        for (int i = 0; i < 15; i++) {
            x.good(5, 1, 1);
        }
        siege("with all another's", x, 9, -1, -1, -1);
        due("of another", x.siege(5, 0, 9, 0), 1);
        due("without", x.ruin(0, 99), -1);
    }

    /** "the 10 lowest numbers at most". */
    private static void siegeTenLowest() {
        GiftDuel x = Edges.hall(2);
        for (int i = 0; i < 12; i++) {
            x.good(0, 10, i < 9 ? 0 : 20);
        }
        x.put(1, 0, 20);
        siege("the tenth alone", x, 2, 1, 10, 1 << 9);
        siege("not two of them", x, 1, -1, -1, -1);
        x.put(1, 0, 0);
        siege("the tenth, not the eleventh", x, 1, 1, 10, 1 << 9);
        x.good(1, 1, 0);
        x.give(0, 1);
        siege("the eleventh is the tenth then", x, 1, 1, 10, 1 << 9);
        x.put(1, 0, 39);
        siege("both", x, 1, 2, 20, 3 << 9);
    }

    /** "BARRED ones of these aside": an eleventh does not come in their place. */
    private static void siegeBarredAside() {
        GiftDuel x = Edges.hall(3);
        for (int i = 0; i < 11; i++) {
            x.good(0, 10, 20);
        }
        x.put(1, 0, 0);
        Check.rule(x, "bars if good < 9 and giver = 0 and to = 1");
        siege("the tenth", x, 1, 1, 10, 1 << 9);
        due("another is not BARRED", x.siege(0, 2, 9, 2), 1);
        Check.rule(x, "bars if good < 10 and giver = 0 and to = 1");
        siege("not the eleventh", x, 9, -1, -1, -1);
        Check.rule(x, "bars if giver = 1 or to = 0 or herald > 0-1");
        siege("BARRED otherwise", x, 1, 1, 10, 1);
    }

    /** "GOODS a LORD holds as OWNER". */
    private static void siegeOfOwners() {
        GiftDuel x = Edges.hall(3);
        x.good(0, 10, 20);
        x.good(2, 10, 20);
        x.good(0, 90, 20);
        x.put(1, 0, 0);
        x.give(0, 2);
        x.give(1, 0);
        siege("neither held alone nor owned alone", x, 1, 1, 90, 4);
        x.give(2, 2);
        siege("none left", x, 9, -1, -1, -1);
    }

    /** "the fewest ..; then the least WORTH together, then the lowest as bits (of these GOODS by number)". */
    private static void siegeFewestLeastLowest() {
        GiftDuel x = Edges.hall(2);
        x.put(1, 0, 9);
        x.good(1, 0, 0);
        x.good(0, 1, 5);
        x.good(0, 1, 5);
        x.good(0, 90, 10);
        siege("one of WORTH 90 ahead of two of 2", x, 1, 1, 90, 8);
        x.good(0, 89, 10);
        siege("less WORTH ahead of a lower number", x, 1, 1, 89, 16);
        x.good(0, 89, 10);
        siege("as much: the lower number", x, 1, 1, 89, 16);
        x.put(1, 0, 19);
        siege("two of 89", x, 1, 2, 178, 48);
        x.good(0, 88, 10);
        siege("88 and the lower of 89", x, 1, 2, 177, 80);
        x.put(1, 0, 29);
        siege("three", x, 1, 3, 266, 112);
    }

    /** WORTH now; "(GIVEN as it is now)" of what it COSTS, asked of who is given it, in the YEARS to come. */
    private static void siegeWorthNow() {
        GiftDuel x = Edges.halls(2);
        Check.rule(x, "worth 100*year+10*to+giver+given; keeps 0; keeps 50 if good = 0 and given = 0 and to = 1 and year = 8");
        x.terms(0, 5);
        x.put(1, 0, 49);
        siege("not in YEAR 7", x, 2, -1, -1, -1);
        siege("in YEAR 8, WORTH of YEAR 5", x, 3, 1, 510, 1);
        x.give(0, 1);
        x.give(0, 0);
        siege("GIVEN twice", x, 3, -1, -1, -1);
        Check.rule(x, "keeps 99 if to = 0");
        x.put(1, 0, 0);
        siege("not by what it COSTS who gives", x, 9, -1, -1, -1);
    }

    /** "(both on paper, beyond 999, too)". */
    private static void siegeBeyond999() {
        GiftDuel x = Edges.halls(2);
        x.put(1, 0, 0);
        x.terms(0, 999);
        Check.rule(x, "keeps 0; keeps 1 if year > 1000 + 7 and to = 1 and good = 0");
        siege("in YEAR 1008", x, 9, 1, 10, 1);
        siege("not in 1007", x, 8, -1, -1, -1);
        due("YEAR", x.count(14), 999);
    }

    /** "one of both LORDS is RUINED". */
    private static void siegeOfRuined() {
        GiftDuel x = Edges.hall(3);
        x.put(2, 0, 0);
        x.good(2, 10, 20);
        x.good(0, 10, 20);
        due("ahead of it", x.siege(2, 0, 9, 0), 0);
        due("ahead of it", x.siege(0, 2, 9, 0), 0);
        x.await();
        for (int what = 0; what <= 2; what++) {
            int asked = what;
            Edges.none("who gives is RUINED", x, y -> y.siege(2, 0, 9, asked));
            Edges.none("who is given is RUINED", x, y -> y.siege(0, 2, 9, asked));
        }
        x.put(2, 0, 9);
        Edges.none("RUINED for good", x, y -> y.siege(0, 2, 9, 0));
        due("others are not", x.siege(0, 1, 9, 0), 1);
    }
}
