/** Terms III, gifts and waiting, and promises 17 to 22: a test for each boundary case that a sentence names. */
public final class EdgesGiftsTest {
    public static void main(String[] args) {
        toAnotherLord();
        neitherRuined();
        notBarred();
        worthAheadOfGiven();
        secondHand();
        moreWorthAnswers();
        noMoreWorthDoesNothing();
        greaterOfBoth();
        fromThatYearOn();
        worthZeroChallenges();
        behind999();
        harvestAtMost();
        harvestAheadOfPaying();
        justEnoughIsPaid();
        costsOfTheNewYear();
        allGoodsHeld();
        ruinedHasNoGrain();
        ruinedAlready();
        howManyWereRuined();
        fullHall();
        challengesOfTheRuined();
        challengesOfOthersStand();
        graceAhead();
        lostAndWon();
        yearPutBack();
        asksOfNone();
        debtOfNone();
        owedOfNone();
        undoSixteen();
        undoOfNone();
        undoBehindOthers();
        undoGivesAllBack();
        Check.finish("EdgesGiftsTest");
    }

    private static void due(String call, long got, long want) {
        Check.due(call, got, want);
    }

    /** LORD 0 is RUINED, LORDS 1 and 2 are not; each holds the GOOD of its number. */
    private static GiftDuel oneRuined() {
        GiftDuel x = new GiftDuel();
        x.lord(0, 0);
        x.lord(100, 0);
        x.lord(100, 0);
        x.good(0, 10, 1);
        x.good(1, 20, 0);
        x.good(2, 30, 0);
        x.await();
        return x;
    }

    /** "its HOLDER gives a GOOD to another LORD". */
    private static void toAnotherLord() {
        GiftDuel x = Edges.halls(2);
        Edges.refused("to its HOLDER", x, -3, y -> y.give(1, 1));
        x.give(1, 0);
        Edges.refused("to its new HOLDER", x, -3, y -> y.give(1, 0));
        due("to its old one", x.give(1, 1), 10);
    }

    /** "(neither RUINED": neither who gives nor who is given. */
    private static void neitherRuined() {
        GiftDuel x = oneRuined();
        due("RUINED", x.of(0, 2), 1);
        Edges.refused("to one that is RUINED", x, -3, y -> y.give(1, 0));
        Edges.refused("of one that is RUINED", x, -3, y -> y.give(0, 1));
        x.put(0, 0, 500);
        Edges.refused("GRAIN does not help", x, -3, y -> y.give(0, 1));
        due("others can", x.give(1, 2), 20);
    }

    /** "not BARRED)": in this YEAR, from this giver, to that one. */
    private static void notBarred() {
        GiftDuel x = Edges.halls(3);
        Check.rule(x, "bars if giver = 0 and to = 1 and year < 2");
        Edges.refused("BARRED", x, -3, y -> y.give(0, 1));
        due("to another", x.give(0, 2), 10);
        due("of another", x.give(0, 1), 10);
        x.give(0, 0);
        x.terms(0, 1);
        Edges.refused("BARRED still", x, -3, y -> y.give(0, 1));
        x.terms(0, 2);
        due("BARRED no more", x.give(0, 1), 10);
    }

    /** "GIVEN is one more then (WORTH is asked ahead of that)"; so is whether it is BARRED. */
    private static void worthAheadOfGiven() {
        GiftDuel x = Edges.halls(2);
        Check.rule(x, "worth 100 + given; bars if given = 2");
        due("first", x.give(0, 1), 100);
        due("challenge", x.debt(1, 0, 0), 100);
        due("second", x.give(0, 0), 101);
        due("GIVEN", x.at(0, 4), 2);
        Edges.refused("the third", x, -3, y -> y.give(0, 1));
    }

    /** "SECOND HAND ..: a FOUL of the giver, it challenges nobody" - and answers nothing. */
    private static void secondHand() {
        GiftDuel x = Edges.halls(3);
        x.terms(1, 3);
        x.give(0, 1);
        due("not SECOND HAND", x.of(0, 3), 0);
        x.give(1, 2);
        due("owed ahead of it", x.owed(2, 0), 1);
        due("SECOND HAND", x.asks(0, 2, 2), 1);
        due("its WORTH is answered", x.give(0, 2), 10);
        due("a FOUL of the giver", x.of(1, 3), 1);
        due("of nobody else", x.of(0, 3) + x.of(2, 3), 0);
        due("it does not add to a challenge", x.debt(2, 1, 0), 10);
        due("nobody else is challenged", x.count(5), 2);
        answersNothing();
    }

    /** SECOND HAND of more WORTH: the other one's challenge stands still. */
    private static void answersNothing() {
        GiftDuel x = Edges.halls(3);
        x.good(2, 90, 0);
        x.give(0, 1);
        x.give(3, 1);
        due("SECOND HAND of more WORTH", x.give(3, 0), 90);
        due("it answers nothing", x.debt(1, 0, 0), 10);
        due("and challenges nobody", x.owed(0, 0), 0);
        due("a FOUL", x.of(1, 3), 1);
        x.give(3, 2);
        due("by its OWNER it is not SECOND HAND", x.asks(3, 1, 2), 0);
        x.give(3, 1);
        due("nor a FOUL", x.of(2, 3), 0);
    }

    /** "a gift of more WORTH answers it (it stands no more) and challenges the other one": by one is enough. */
    private static void moreWorthAnswers() {
        GiftDuel x = Edges.hall(2);
        x.good(0, 50, 0);
        x.good(1, 51, 0);
        x.good(0, 52, 0);
        x.terms(1, 3);
        x.give(0, 1);
        x.await();
        x.give(1, 0);
        due("it stands no more", x.debt(1, 0, 0), -1);
        due("the other one is challenged", x.debt(0, 1, 0), 51);
        due("from this YEAR on", x.debt(0, 1, 1), 1);
        due("one stands", x.count(5), 1);
        x.give(2, 1);
        due("and back", x.debt(1, 0, 0), 52);
        due("one stands", x.count(5), 1);
    }

    /** "one of no more WORTH does nothing": as much is no more; the GOOD moves. */
    private static void noMoreWorthDoesNothing() {
        GiftDuel x = Edges.hall(2);
        x.good(0, 50, 0);
        x.good(1, 50, 0);
        x.good(1, 0, 0);
        x.give(0, 1);
        due("as much", x.give(1, 0), 50);
        due("less", x.give(2, 0), 0);
        due("it stands", x.debt(1, 0, 0), 50);
        due("no other", x.count(5), 1);
        due("no FOUL", x.of(1, 3), 0);
        due("held by the other", x.of(0, 6), 2);
        due("GIVEN", x.at(1, 4), 1);
    }

    /** "if a challenge of the giver stands against that one already, it is of the greater of both WORTHS, its YEAR stays". */
    private static void greaterOfBoth() {
        GiftDuel x = Edges.hall(2);
        x.good(0, 50, 0);
        x.good(0, 49, 0);
        x.good(0, 50, 0);
        x.good(0, 51, 0);
        x.terms(1, 3);
        x.terms(0, 6);
        x.give(0, 1);
        x.await();
        int[] due = {50, 50, 51};
        for (int good = 1; good <= 3; good++) {
            x.give(good, 1);
            due("the greater", x.debt(1, 0, 0), due[good - 1]);
            due("its YEAR", x.debt(1, 0, 1), 6);
            due("one stands", x.count(5), 1);
        }
    }

    /** "Else it challenges the other one, of its WORTH, from that YEAR on": from YEAR 0, from YEAR 999, too. */
    private static void fromThatYearOn() {
        for (int year : new int[] {0, 1, 998, 999}) {
            GiftDuel x = Edges.halls(2);
            x.terms(0, year);
            x.give(0, 1);
            due("WORTH", x.debt(1, 0, 0), 10);
            due("from YEAR " + year, x.debt(1, 0, 1), year);
            due("not the other way", x.debt(0, 1, 0), -1);
        }
    }

    /** A challenge of WORTH 0 stands, too: it is answered by 1, not by 0. */
    private static void worthZeroChallenges() {
        GiftDuel x = Edges.hall(2);
        x.good(0, 0, 0);
        x.good(1, 0, 0);
        x.good(1, 1, 0);
        due("a gift of 0", x.give(0, 1), 0);
        due("stands", x.debt(1, 0, 0), 0);
        due("its LORD", x.owed(1, 1), 0);
        due("counted", x.count(5), 1);
        x.give(1, 0);
        due("0 does nothing", x.debt(1, 0, 0), 0);
        x.give(2, 0);
        due("1 answers", x.debt(1, 0, 0), -1);
        due("and challenges", x.debt(0, 1, 0), 1);
        x.await();
        due("and is lost", x.of(0, 4), 1);
    }

    /** "it is the next YEAR (behind 999 it can't be)". */
    private static void behind999() {
        GiftDuel x = Edges.halls(2);
        x.terms(0, 998);
        due("to 999", x.await(), 0);
        due("YEAR 999", x.count(14), 999);
        Edges.refused("behind 999", x, -3, y -> y.await());
        due("the one to 999 can be undone", x.undo(), 1);
        due("YEAR 998", x.count(14), 998);
    }

    /** "each LORD .. gets HARVEST (9,999 at most)". */
    private static void harvestAtMost() {
        int[] grain = {9899, 9900, 9901, 9999};
        for (int g : grain) {
            GiftDuel x = new GiftDuel();
            x.lord(g, 99);
            x.await();
            due("from " + g, x.of(0, 0), Math.min(9999, g + 99));
        }
        GiftDuel x = new GiftDuel();
        x.lord(9990, 99);
        x.good(0, 1, 20);
        x.await();
        due("what is above is gone ahead of paying", x.of(0, 0), 9979);
    }

    /** ".. and pays": of this YEAR's HARVEST, too. */
    private static void harvestAheadOfPaying() {
        GiftDuel x = new GiftDuel();
        x.lord(0, 20);
        x.good(0, 1, 20);
        due("none is RUINED", x.await(), 0);
        due("nothing is left", x.of(0, 0), 0);
        due("not RUINED", x.of(0, 2), 0);
    }

    /** "who can't pay is RUINED": just enough is enough, one less is not. */
    private static void justEnoughIsPaid() {
        for (int grain = 4; grain <= 6; grain++) {
            GiftDuel x = new GiftDuel();
            x.lord(grain, 0);
            x.good(0, 1, 2);
            x.good(0, 1, 3);
            due("RUINED of " + grain, x.await(), grain < 5 ? 1 : 0);
            due("of " + grain, x.of(0, 2), grain < 5 ? 1 : 0);
            due("GRAIN of " + grain, x.of(0, 0), Math.max(0, grain - 5));
        }
    }

    /** "what they COST (asked in the new YEAR)". */
    private static void costsOfTheNewYear() {
        GiftDuel x = Edges.halls(1);
        Check.rule(x, "keeps year * 10");
        due("in this YEAR", x.of(0, 7), 0);
        x.await();
        due("paid", x.of(0, 0), 90);
        x.await();
        due("paid", x.of(0, 0), 70);
    }

    /** "pays for all GOODS held": SECOND HAND ones, too; the OWNER pays no more. */
    private static void allGoodsHeld() {
        GiftDuel x = Edges.hall(2);
        x.good(0, 1, 7);
        x.good(0, 1, 5);
        x.give(0, 1);
        x.await();
        due("OWNER of one, HOLDER of the other", x.of(0, 0), 95);
        due("HOLDER", x.of(1, 0), 93);
    }

    /** "is RUINED and has GRAIN 0": whatever was left; its GOODS stay. */
    private static void ruinedHasNoGrain() {
        GiftDuel x = new GiftDuel();
        x.lord(19, 0);
        x.good(0, 1, 20);
        due("RUINED", x.await(), 1);
        due("GRAIN", x.of(0, 0), 0);
        due("its GOOD", x.of(0, 6), 1);
        due("HARVEST stays", x.of(0, 1), 0);
    }

    /** "each LORD": one that is RUINED gets HARVEST and pays, too, is not RUINED once more, and stays so. */
    private static void ruinedAlready() {
        GiftDuel x = new GiftDuel();
        x.lord(0, 5);
        x.good(0, 1, 6);
        due("RUINED", x.await(), 1);
        due("not once more", x.await(), 0);
        due("GRAIN", x.of(0, 0), 0);
        Check.rule(x, "keeps 2");
        due("it can pay", x.await(), 0);
        due("and keeps the rest", x.of(0, 0), 3);
        due("RUINED for good", x.of(0, 2), 1);
    }

    /** "how many were RUINED then": none, some, all of six. */
    private static void howManyWereRuined() {
        GiftDuel x = new GiftDuel();
        due("without LORDS", x.await(), 0);
        for (int i = 0; i < 6; i++) {
            x.lord(i, 0);
            x.good(i, 1, 3);
        }
        due("three", x.await(), 3);
        for (int i = 0; i < 6; i++) {
            due("LORD " + i, x.of(i, 2), i < 3 ? 1 : 0);
        }
        due("the others", x.await(), 3);
        due("nobody else", x.await(), 0);
    }

    /** Six LORDS, sixteen GOODS, all challenges there can be: a YEAR moves what it is to move alone. */
    private static void fullHall() {
        GiftDuel x = Edges.hall(6);
        for (int i = 0; i < 16; i++) {
            x.good((i + 5) % 6, 10 + i, 1);
        }
        x.give(0, 0);
        x.give(1, 5);
        x.give(2, 0);
        x.give(5, 3);
        int[] held = {0, 5, 0, 2, 3, 3};
        x.await();
        for (int i = 0; i < 16; i++) {
            due("HOLDER of " + i, x.at(i, 0), i < 6 ? held[i] : (i + 5) % 6);
            due("OWNER of " + i, x.at(i, 1), (i + 5) % 6);
            due("BASE of " + i, x.at(i, 2), 10 + i);
            due("KEEP of " + i, x.at(i, 3), 1);
            due("GIVEN of " + i, x.at(i, 4), i < 3 || i == 5 ? 1 : 0);
        }
        int[] grain = {96, 98, 97, 97, 99, 97};
        int[] won = {1, 1, 0, 0, 1, 0};
        int[] lost = {1, 0, 0, 1, 0, 1};
        for (int i = 0; i < 6; i++) {
            due("GRAIN of " + i, x.of(i, 0), grain[i]);
            due("lost by " + i, x.of(i, 4), lost[i]);
            due("won by " + i, x.of(i, 5), won[i]);
            due("none stands against " + i, x.owed(i, 0), 0);
        }
    }

    /** "all challenges against and of that one stand no more then. Then challenges .. are LOST": those are not. */
    private static void challengesOfTheRuined() {
        GiftDuel x = Edges.halls(3);
        x.put(1, 0, 0);
        x.good(1, 1, 1);
        x.give(0, 1);
        x.give(1, 2);
        x.give(2, 0);
        due("three stand", x.count(5), 3);
        due("one is RUINED", x.await(), 1);
        due("none stands", x.count(5), 0);
        due("lost by the third", x.of(0, 4), 1);
        due("won by the third", x.of(2, 5), 1);
        due("not lost by who is RUINED", x.of(1, 4), 0);
        due("not won by who is RUINED", x.of(1, 5), 0);
        due("not won against who is RUINED", x.of(0, 5), 0);
        due("not lost against who is RUINED", x.of(2, 4), 0);
    }

    /** Of six LORDS one is RUINED: challenges against it and of it stand no more, all others stand. */
    private static void challengesOfOthersStand() {
        for (int ruined = 0; ruined < 6; ruined++) {
            GiftDuel x = Edges.halls(6);
            x.terms(1, 3);
            for (int i = 0; i < 6; i++) {
                x.good(i, 20 + i, 0);
            }
            x.good(ruined, 1, 1);
            x.put(ruined, 0, 0);
            for (int i = 0; i < 6; i++) {
                x.give(i, (i + 1) % 6);
                x.give(6 + i, (i + 3) % 6);
            }
            int[][] ahead = debts(x);
            due("one is RUINED", x.await(), 1);
            int[][] behind = debts(x);
            for (int i = 0; i < 36; i++) {
                boolean gone = i / 6 == ruined || i % 6 == ruined;
                due("against " + i / 6 + " from " + i % 6, behind[0][i], gone ? -1 : ahead[0][i]);
                due("its YEAR", behind[1][i], gone ? -1 : ahead[1][i]);
            }
        }
    }

    private static int[][] debts(GiftDuel x) {
        int[][] all = new int[2][36];
        for (int i = 0; i < 36; i++) {
            all[0][i] = x.debt(i / 6, i % 6, 0);
            all[1][i] = x.debt(i / 6, i % 6, 1);
        }
        return all;
    }

    /** "challenges from a YEAR that is GRACE ahead of this one, or more, are LOST". */
    private static void graceAhead() {
        for (int grace = 1; grace <= 3; grace++) {
            GiftDuel x = Edges.halls(2);
            x.terms(1, grace);
            x.terms(0, 5);
            x.give(0, 1);
            for (int years = 1; years <= 3; years++) {
                x.await();
                due("GRACE " + grace + " in " + years, x.count(5), years < grace ? 1 : 0);
                due("GRACE " + grace + " in " + years, x.of(1, 4), years < grace ? 0 : 1);
            }
        }
        GiftDuel x = Edges.halls(2);
        x.terms(1, 3);
        x.give(0, 1);
        x.await();
        x.await();
        x.terms(1, 1);
        due("a TERM alone loses none", x.count(5), 1);
        x.await();
        due("or more", x.of(1, 4), 1);
    }

    /** "one more is lost by whom they stand against, one more won by the other one; they stand no more". */
    private static void lostAndWon() {
        GiftDuel x = Edges.halls(3);
        x.give(0, 2);
        x.give(1, 2);
        x.await();
        due("two lost", x.of(2, 4), 2);
        due("one won", x.of(0, 5), 1);
        due("one won", x.of(1, 5), 1);
        due("none won", x.of(2, 5), 0);
        due("none lost", x.of(0, 4) + x.of(1, 4), 0);
        x.await();
        due("once alone", x.of(2, 4), 2);
        due("stand no more", x.debt(2, 0, 0) + x.debt(2, 1, 1), -2);
    }

    /** A YEAR put back by terms(): a challenge from a YEAR to come is LOST GRACE behind that one. */
    private static void yearPutBack() {
        GiftDuel x = Edges.halls(2);
        x.terms(0, 5);
        x.give(0, 1);
        x.terms(0, 3);
        x.await();
        x.await();
        due("YEAR 5", x.debt(1, 0, 1), 5);
        x.await();
        due("YEAR 6", x.of(1, 4), 1);
        x.give(1, 0);
        x.terms(0, 999);
        due("terms() loses none", x.count(5), 1);
    }

    /** Promise 17: NONE of another what, of no such GOOD, no such LORD, to its HOLDER. */
    private static void asksOfNone() {
        GiftDuel x = Edges.halls(3);
        Edges.asked("asks' what", 0, 2, x, (y, n) -> y.asks(0, 1, n));
        Edges.asked("asks' GOOD", 0, 2, x, (y, n) -> y.asks(n, n == 1 ? 0 : 1, 0));
        Edges.asked("asks' LORD", 1, 2, x, (y, n) -> y.asks(0, n, 0));
        for (int what = 0; what <= 2; what++) {
            int asked = what;
            Edges.none("to its HOLDER", x, y -> y.asks(2, 2, asked));
        }
        x.give(0, 2);
        Edges.none("to its new HOLDER", x, y -> y.asks(0, 2, 0));
        due("to its OWNER", x.asks(0, 0, 2), 1);
        GiftDuel r = oneRuined();
        Edges.unchanged("RUINED or not does not matter", r, 20, y -> y.asks(1, 0, 0));
        Edges.unchanged("of one RUINED", r, 10, y -> y.asks(0, 1, 0));
    }

    /** Promise 21: "NONE (none, too)". */
    private static void debtOfNone() {
        GiftDuel x = Edges.halls(3);
        Edges.none("none stands", x, y -> y.debt(1, 0, 0));
        Edges.none("the YEAR of none", x, y -> y.debt(1, 0, 1));
        x.give(0, 1);
        Edges.asked("debt's what", 0, 1, x, (y, n) -> y.debt(1, 0, n));
        Edges.none("the other way", x, y -> y.debt(0, 1, 0));
        Edges.none("against itself", x, y -> y.debt(1, 1, 0));
        Edges.asked("debt's LORD", 1, 1, x, (y, n) -> y.debt(n, 0, 0));
        Edges.asked("debt's other LORD", 0, 0, x, (y, n) -> y.debt(1, n, 0));
        GiftDuel full = Edges.halls(6);
        full.give(5, 4);
        Edges.none("no LORD 6", full, y -> y.debt(3, 11, 0));
        Edges.none("no LORD 6", full, y -> y.debt(6, -7, 0));
    }

    /** Promise 22: "NONE (none, for 1)"; "the LORD whose is of most WORTH, the lowest". */
    private static void owedOfNone() {
        GiftDuel x = Edges.halls(4);
        Edges.unchanged("none", x, 0, y -> y.owed(0, 0));
        Edges.none("none's LORD", x, y -> y.owed(0, 1));
        x.good(1, 9, 0);
        x.good(3, 11, 0);
        x.give(4, 0);
        due("one", x.owed(0, 1), 1);
        x.give(3, 0);
        due("more WORTH", x.owed(0, 1), 3);
        x.give(2, 0);
        due("the lowest of as much", x.owed(0, 1), 2);
        x.give(5, 0);
        due("the most", x.owed(0, 1), 3);
        due("three", x.owed(0, 0), 3);
        due("of LORD 3", x.owed(3, 0), 0);
        Edges.asked("owed's LORD", 0, 3, x, (y, n) -> y.owed(n, 0));
        Edges.asked("owed's what", 0, 1, x, (y, n) -> y.owed(0, n));
        GiftDuel full = Edges.halls(6);
        full.give(0, 1);
        Edges.unchanged("none against 0, be there one against 1", full, 0, y -> y.owed(0, 0));
        Edges.none("none against 0, be there one against 1", full, y -> y.owed(0, 1));
        full.undo();
        for (int i = 0; i < 5; i++) {
            full.give(i, 5);
        }
        due("of all others", full.owed(5, 0), 5);
        due("the lowest of all", full.owed(5, 1), 0);
        due("all that stand", full.count(5), 5);
        GiftDuel last = Edges.halls(6);
        last.give(5, 0);
        due("of LORD 5", last.owed(0, 1), 5);
    }

    /** Promise 20: "16 are kept": the seventeenth takes the first's place, over and over. */
    private static void undoSixteen() {
        GiftDuel x = Edges.halls(2);
        for (int i = 1; i <= 40; i++) {
            x.await();
            due("kept", x.count(6), Math.min(16, i));
        }
        for (int i = 1; i <= 16; i++) {
            due("undone", x.undo(), 1);
            due("YEAR", x.count(14), 40 - i);
            due("kept", x.count(6), 16 - i);
        }
        Edges.refused("the seventeenth", x, -3, y -> y.undo());
        x.give(0, 1);
        x.await();
        due("a YEAR", x.undo(), 1);
        due("a gift", x.undo(), 0);
        Edges.refused("no third", x, -3, y -> y.undo());
    }

    /** Promise 20: "-3 there is none": REFUSED calls can't be undone. */
    private static void undoOfNone() {
        GiftDuel x = new GiftDuel();
        Edges.refused("of a new object", x, -3, y -> y.undo());
        GiftDuel h = Edges.halls(2);
        h.give(0, 0);
        h.give(9, 9);
        h.terms(0, 999);
        h.await();
        due("none", h.count(6), 0);
        Edges.refused("REFUSED ones", h, -3, y -> y.undo());
        h.give(0, 1);
        h.undo();
        Edges.refused("undone already", h, -3, y -> y.undo());
    }

    /** "(nothing that was ahead of a lord(), put(), good(), row(), terms() that was not REFUSED can be undone)". */
    private static void undoBehindOthers() {
        String[] ending = {"lord", "put", "good", "row", "row of DROSS alone", "terms"};
        Edges.Call[] ends = {x -> x.lord(0, 0), x -> x.put(0, 0, 100), x -> x.good(0, 0, 0), x -> fed(x, 3).row(),
            x -> fed(x, 1).row(), x -> x.terms(2, 0)};
        for (int i = 0; i < ends.length; i++) {
            GiftDuel x = Edges.halls(2);
            x.give(0, 1);
            x.await();
            ends[i].on(x);
            due("behind " + ending[i], x.count(6), 0);
            due("behind " + ending[i], x.undo(), -3);
            x.await();
            due("what comes behind it can be", x.undo(), 1);
        }
        String[] leaving = {"lord", "put", "good", "row", "terms", "herald", "road", "shelf", "force", "law", "orders",
            "generation", "image", "back", "feed", "end"};
        Edges.Call[] leaves = {x -> x.lord(-1, 0), x -> x.put(9, 0, 0), x -> x.good(9, 0, 0), x -> x.row(),
            x -> x.terms(1, 0), x -> x.herald(1), x -> x.road(0, 1, 1, 1), x -> x.shelf(0, 0), x -> x.force(-1),
            x -> Check.law(x, "bars"), x -> Check.orders(x, "give 9 to 9"), x -> x.generation(1, 1), x -> x.image(0),
            x -> x.back(0), x -> x.feed(0, 0, 0, 0, 0), x -> x.end(0)};
        for (int i = 0; i < leaves.length; i++) {
            GiftDuel x = Edges.halls(2);
            x.give(0, 1);
            x.await();
            leaves[i].on(x);
            due("kept behind " + leaving[i], x.count(6), 2);
            due("a YEAR behind " + leaving[i], x.undo(), 1);
            due("a gift behind " + leaving[i], x.undo(), 0);
            due("its HOLDER", x.at(0, 0), 0);
        }
    }

    private static GiftDuel fed(GiftDuel x, int bytes) {
        x.feed(0, 0, 0, 0, 0);
        x.end(bytes);
        return x;
    }

    /** What gifts and YEARS changed is as it was; what others changed since is not. */
    private static void undoGivesAllBack() {
        GiftDuel x = Edges.halls(3);
        x.put(2, 0, 0);
        x.good(2, 50, 3);
        x.give(0, 1);
        String ahead = Edges.seen(x);
        x.give(0, 2);
        x.give(1, 0);
        x.await();
        x.undo();
        x.undo();
        due("the third", x.undo(), 0);
        String left = Edges.seen(x);
        Check.holds("FOULS, challenges, GRAIN, RUINED, lost, won", ahead.equals(left));
        x.await();
        due("RUINED", x.of(2, 2), 1);
        x.herald(1);
        Check.rule(x, "worth 33");
        x.shelf(0, 2);
        x.undo();
        due("not RUINED", x.of(2, 2), 0);
        due("the HERALD stays", x.count(2), 1);
        due("the LAW stays", x.count(4), 1);
        due("in FORCE", x.count(13), 0);
        due("the SHELF stays", x.shelf(0, -1), 2);
    }
}
