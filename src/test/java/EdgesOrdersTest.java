/** Terms II, ORDERS and promises 13 to 15: how often a CLAUSE is run, what its words tell, what can't be. */
public final class EdgesOrdersTest {
    public static void main(String[] args) {
        timesAndOnceWithout();
        ifIsAskedEachTime();
        notRunIfNotSoOrBroken();
        sumsAreAskedEachTime();
        goodsAndYear();
        doneAndLast();
        grainHolderOwed();
        noSuchLordOrGoodOfAWord();
        brokenSumCantBe();
        giftThatIsRefusedCantBe();
        waitBehind999CantBe();
        allIsAsItWas();
        whatCanBeUndoneIsAsItWas();
        asGiveAndAwaitWould();
        refusalsWithinAreNotCounted();
        stoppedAt();
        tapeIsEmptyThen();
        mostThatCanRun();
        Check.finish("EdgesOrdersTest");
    }

    private static void due(String call, long got, long want) {
        Check.due(call, got, want);
    }

    /** All that is seen, but for what orders() is to change even if it is REFUSED. */
    private static String state(GiftDuel x) {
        return Edges.seen(x).replaceFirst("^((?:\\S+ ){12})\\S+ \\S+ ", "$1");
    }

    private static void cantBe(GiftDuel x, String text, int clause) {
        String ahead = state(x);
        int counted = x.count(10);
        due("'" + text + "'", Check.orders(x, text), -3);
        due("'" + text + "' stopped", x.stopped(), clause);
        due("'" + text + "' status", x.status(), -3);
        due("'" + text + "' is counted once", x.count(10), counted + 1);
        due("'" + text + "' fault", x.fault(), -1);
        Check.holds("'" + text + "' changes nothing", ahead.equals(state(x)));
    }

    /** "each as often as TIMES tell (once without)"; "TIMES: a NUMBER 1 .. 20". */
    private static void timesAndOnceWithout() {
        GiftDuel x = Edges.hall(1);
        due("once without", Check.orders(x, "wait"), 1);
        due("YEAR", x.count(14), 1);
        due("times 1", Check.orders(x, "wait times 1"), 1);
        due("YEAR", x.count(14), 2);
        due("times 20", Check.orders(x, "wait times 20"), 20);
        due("YEAR", x.count(14), 22);
        due("one CLAUSE's are not another's", Check.orders(x, "wait times 3; wait"), 4);
        due("YEAR", x.count(14), 26);
    }

    /** "each time its "if" is asked". */
    private static void ifIsAskedEachTime() {
        GiftDuel x = Edges.hall(1);
        due("until YEAR 3", Check.orders(x, "wait times 9 if year < 3"), 3);
        due("done", Check.orders(x, "wait times 20 if done < 5"), 5);
        GiftDuel y = Edges.halls(3);
        due("back and forth", Check.orders(y, "give 0 to 1 if holder 0 = 0; give 0 to 2 times 5 if holder 0 = 1"), 2);
        due("held by 2", y.at(0, 0), 2);
    }

    /** "not run, if it is not so or BROKEN": its SUMS are not asked then, and that stops nothing. */
    private static void notRunIfNotSoOrBroken() {
        GiftDuel x = Edges.hall(1);
        due("not so", Check.orders(x, "wait if 1 = 2"), 0);
        due("stopped", x.stopped(), -1);
        due("status", x.status(), 0);
        due("BROKEN", Check.orders(x, "wait if 1/0 = 1"), 0);
        due("BROKEN and not", Check.orders(x, "wait times 20 if not 1/0 = 1"), 0);
        due("BROKEN by what is beyond", Check.orders(x, "wait if 1000*1000*1000+1 > 0"), 0);
        due("SUMS are not asked", Check.orders(x, "give 1/0 to 1/0 if 1 = 2; give 9 to 9 if 1/0 = 1; wait"), 1);
        due("YEAR", x.count(14), 1);
    }

    /** "then its SUMS": each time anew. */
    private static void sumsAreAskedEachTime() {
        GiftDuel x = Edges.halls(3);
        due("round and round", Check.orders(x, "give 0 to [holder 0+1]%3 times 4"), 4);
        due("held by 1", x.at(0, 0), 1);
        due("given", x.at(0, 4), 4);
        due("one after another", Check.orders(x, "give done + 1 to 0 times 2"), 2);
        due("both", x.of(0, 6), 2);
    }

    /** "goods: how many there are", year. */
    private static void goodsAndYear() {
        GiftDuel x = Edges.hall(2);
        due("none", Check.orders(x, "wait if goods = 0 and year = 0"), 1);
        for (int i = 0; i < 16; i++) {
            x.good(0, 1, 0);
        }
        due("sixteen", Check.orders(x, "wait if goods = 16 and year = 1"), 1);
        due("the last of them", Check.orders(x, "give goods-1 to 1"), 1);
        due("YEAR within", Check.orders(x, "wait; wait; wait if year = 4"), 3);
    }

    /** "done: how many were run in this TEXT, last: WORTH of the latest gift in it (-1: none)". */
    private static void doneAndLast() {
        GiftDuel x = Edges.halls(3);
        x.good(0, 0, 0);
        due("at first", Check.orders(x, "wait if done = 0 and last = 0-1"), 1);
        due("not of the TEXT ahead", Check.orders(x, "give 0 to 1; wait if done = 1 and last = 10"), 2);
        due("done, last begin anew", Check.orders(x, "wait if done = 0 and last = 0-1"), 1);
        due("a wait leaves last", Check.orders(x, "give 1 to 2; wait; wait if done = 2 and last = 10"), 3);
        due("WORTH 0 is one", Check.orders(x, "give 3 to 1; wait if last = 0"), 2);
        due("what is not run is not done", Check.orders(x, "wait if 1=2; wait if done = 0"), 1);
        due("SECOND HAND is one", Check.orders(x, "give 3 to 2; give 0 to 0; wait if last = 10 and done = 2"), 3);
    }

    /** "grain: of a LORD, holder: of a GOOD, owed: how many challenges stand against a LORD". */
    private static void grainHolderOwed() {
        GiftDuel x = Edges.halls(6);
        x.put(5, 0, 9999);
        x.put(4, 0, 0);
        due("GRAIN", Check.orders(x, "wait if grain 5 = 1000*10-1 and grain 4 = 0 and grain 0 = 100"), 1);
        x.give(1, 0);
        x.give(2, 0);
        x.give(5, 0);
        due("owed", Check.orders(x, "wait if owed 0 = 3 and owed 1 = 0 and owed 5 = 0"), 1);
        due("owed no more behind it", Check.orders(x, "wait if owed 0 = 0"), 1);
        due("HOLDER", Check.orders(x, "wait if holder 5 = 0 and holder 4 = 4"), 1);
        due("within", Check.orders(x, "give 4 to 3; wait if owed 3 = 1 and holder 4 = 3"), 2);
    }

    /** "(-1: no such)". */
    private static void noSuchLordOrGoodOfAWord() {
        GiftDuel x = Edges.halls(2);
        due("of none", Check.orders(x, "wait if grain 2 = 0-1 and grain 5 = 0-1 and owed 2 = 0-1 and owed 5 = 0-1"), 1);
        due("of none", Check.orders(x, "wait if holder 2 = 0-1 and holder 15 = 0-1"), 1);
        due("of the last", Check.orders(x, "wait if grain 1 = 100 and owed 1 = 0 and holder 1 = 1"), 1);
        due("in an empty hall", Check.orders(new GiftDuel(), "wait if grain 0 = 0-1 and owed 0 = 0-1 and holder 0 = 0-1"), 1);
    }

    /** "One that can't be (a BROKEN SUM ..": either SUM. */
    private static void brokenSumCantBe() {
        GiftDuel x = Edges.halls(2);
        cantBe(x, "give 1/0 to 1", 0);
        cantBe(x, "give 0 to 1%0", 0);
        cantBe(x, "give 1000*1000*1000*2*0 to 1", 0);
        cantBe(x, "give 0 to 1+0*[1000*1000*1000+1]", 0);
        cantBe(x, "wait; give 0 to 1/[year-1]", 1);
    }

    /** ".. as give() .. [is] REFUSED": no such GOOD, LORD; RUINED, BARRED, to its HOLDER. */
    private static void giftThatIsRefusedCantBe() {
        GiftDuel x = Edges.halls(3);
        cantBe(x, "give 3 to 1", 0);
        cantBe(x, "give 0-1 to 1", 0);
        cantBe(x, "give 1000 to 1", 0);
        cantBe(x, "give 1000*1000*1000 to 1", 0);
        cantBe(x, "give 0 to 3", 0);
        cantBe(x, "give 0 to 0-1", 0);
        cantBe(x, "give 0 to 0-1000*1000*1000", 0);
        cantBe(x, "give 0 to 0", 0);
        cantBe(x, "give 0 to 1 times 2", 0);
        cantBe(x, "give 0 to 1; give 0 to 1", 1);
        Check.rule(x, "bars if to = 2");
        cantBe(x, "give 0 to 1; give 0 to 2", 1);
        x.force(-1);
        x.put(1, 0, 0);
        x.good(1, 1, 1);
        x.await();
        cantBe(x, "give 0 to 1", 0);
        cantBe(x, "give 1 to 0", 0);
        due("others can", Check.orders(x, "give 0 to 2"), 1);
    }

    /** ".. await() [is] REFUSED": YEAR 999. */
    private static void waitBehind999CantBe() {
        GiftDuel x = Edges.halls(2);
        x.terms(0, 997);
        cantBe(x, "wait times 3", 0);
        cantBe(x, "wait; wait; wait", 2);
        due("to 999", Check.orders(x, "wait times 2"), 2);
        due("YEAR 999", x.count(14), 999);
        cantBe(x, "wait", 0);
        due("if it is not so it is not run", Check.orders(x, "wait if year < 999"), 0);
        due("gifts can be", Check.orders(x, "give 0 to 1"), 1);
    }

    /** "all is as it was ahead of it": GRAIN, HOLDERS, GIVEN, FOULS, challenges, lost, won, RUINED, YEAR. */
    private static void allIsAsItWas() {
        GiftDuel x = Edges.halls(3);
        x.lord(3, 0);
        x.good(3, 5, 2);
        x.give(0, 1);
        cantBe(x, "give 1 to 2; give 0 to 2; wait times 3; give 2 to 1; give 0 to 9", 4);
        due("LORD 3 would have been RUINED", Check.orders(x, "give 1 to 2; give 0 to 2; wait times 3; give 2 to 1"), 6);
        due("RUINED", x.of(3, 2), 1);
        due("a FOUL", x.of(1, 3), 1);
    }

    /** What can be undone is as it was, too, even if more were run than are kept. */
    private static void whatCanBeUndoneIsAsItWas() {
        GiftDuel x = Edges.halls(2);
        x.give(0, 1);
        x.await();
        cantBe(x, "wait times 20; wait times 20; give 9 to 9", 2);
        due("two", x.count(6), 2);
        due("a YEAR", x.undo(), 1);
        due("a gift", x.undo(), 0);
        due("its HOLDER", x.at(0, 0), 0);
        due("none", x.undo(), -3);
        due("run", Check.orders(x, "give 0 to 1; wait times 20"), 21);
        due("16 are kept", x.count(6), 16);
        for (int i = 0; i < 16; i++) {
            due("a YEAR of ORDERS", x.undo(), 1);
        }
        due("YEAR", x.count(14), 4);
        due("the gift can't be undone", x.undo(), -3);
    }

    /** "To give a GOOD ..; to wait": all is as by give(), await(), HARVEST, LOST challenges and what can be undone. */
    private static void asGiveAndAwaitWould() {
        GiftDuel x = Edges.halls(3);
        GiftDuel y = Edges.halls(3);
        for (int i = 0; i < 3; i++) {
            x.put(i, 1, 7 + i);
            y.put(i, 1, 7 + i);
        }
        due("ORDERS", Check.orders(x, "give 0 to 1; wait; give 0 to 2; give 1 to 0; wait; wait"), 6);
        y.give(0, 1);
        y.await();
        y.give(0, 2);
        y.give(1, 0);
        y.await();
        y.await();
        Check.holds("all alike", Edges.seen(x).equals(Edges.seen(y)));
        int[] kinds = {1, 1, 0, 0, 1, 0};
        for (int kind : kinds) {
            due("undone", x.undo(), kind);
            y.undo();
            Check.holds("alike behind it", Edges.seen(x).equals(Edges.seen(y)));
        }
        due("no more", x.undo(), -3);
    }

    /** orders() is REFUSED once, by -3: what it ran is not counted on its own. */
    private static void refusalsWithinAreNotCounted() {
        GiftDuel x = Edges.halls(2);
        Check.orders(x, "give 9 to 9");
        due("by -2", x.count(9), 0);
        due("by -3", x.count(10), 1);
        Check.orders(x, "give x to 9");
        due("by -6", x.count(12), 1);
        due("by -3 still", x.count(10), 1);
        due("status", x.status(), -6);
        Check.orders(x, "wait");
        due("status", x.status(), 0);
    }

    /** Promise 15: the CLAUSE, from 0 on; "NONE (that was done, or REFUSED by -6; ahead of any)". */
    private static void stoppedAt() {
        GiftDuel x = Edges.halls(2);
        due("ahead of any", x.stopped(), -1);
        cantBe(x, "give 9 to 9", 0);
        cantBe(x, "wait;".repeat(11) + "give 9 to 9", 11);
        cantBe(x, "wait times 3; wait if 1=2; give 9 to 9; give 8 to 8", 2);
        Check.law(x, "bars bars");
        due("law() leaves it", x.stopped(), 2);
        Check.orders(x, "wait; wait wait");
        due("REFUSED by -6", x.stopped(), -1);
        cantBe(x, "wait; give 9 to 9", 1);
        due("empty", x.orders(), -6);
        due("REFUSED by -6 of an empty TAPE", x.stopped(), -1);
        cantBe(x, "wait; give 9 to 9", 1);
        Check.orders(x, "wait if 1=2");
        due("done, if it ran none", x.stopped(), -1);
        cantBe(x, "wait; give 9 to 9", 1);
        Check.orders(x, "wait");
        due("done", x.stopped(), -1);
    }

    /** Promise 13: "the TAPE is empty then": run, that can't be, that can't be read. */
    private static void tapeIsEmptyThen() {
        GiftDuel x = Edges.halls(2);
        for (String text : new String[] {"wait", "give 9 to 9", "weit", "   ", "wait;"}) {
            Check.orders(x, text);
            due("TAPE behind '" + text + "'", x.count(7), 0);
        }
        due("empty", x.orders(), -6);
        due("FAULT of an empty TAPE", x.fault(), 0);
        due("blanks", Check.orders(x, "  "), -6);
        due("FAULT of blanks", x.fault(), 2);
    }

    /** Twelve CLAUSES, twenty TIMES each. */
    private static void mostThatCanRun() {
        GiftDuel x = Edges.halls(3);
        due("all", Check.orders(x, "wait times 20;".repeat(11) + "give 0 to [holder 0+1]%3 times 20"), 240);
        due("YEAR", x.count(14), 220);
        due("given", x.at(0, 4), 20);
    }
}
