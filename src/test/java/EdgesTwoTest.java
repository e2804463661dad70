/** Terms II: TEXTS, LAWS, ORDERS. A test for each boundary case that a sentence of it names. */
public final class EdgesTwoTest {
    public static void main(String[] args) {
        tapeOfFourHundred();
        eachTextAnew();
        lettersAToZ();
        wordsWhole();
        digits();
        singleOtherBytes();
        anyBlanksBetween();
        twelveClauses();
        clauseBehindASemicolon();
        numberToThousand();
        fiftyParts();
        partsOfOrders();
        eightBrackets();
        faultIsTheFirstTokenThatCantGoOn();
        faultWithinBrackets();
        faultAtTheEndIsTheLength();
        textsOfTheOtherLanguage();
        beyondAThousandMillion();
        brokenOnTheWay();
        dividedByZero();
        cutTowardsZero();
        orAndAskOnlyIfItMatters();
        notTurns();
        lawsSixAtMost();
        noneInForceAtFirst();
        namedWords();
        notNamedIsBelow();
        moodIsAlwaysNamed();
        clauseHolds();
        lastWorthThatHolds();
        worthNearest();
        heraldTellsLikewise();
        costsNearest();
        barredIfOneHolds();
        Check.finish("EdgesTwoTest");
    }

    private static void due(String call, long got, long want) {
        Check.due(call, got, want);
    }

    private static String times(String text, int n) {
        return text.repeat(n);
    }

    /** Where the LAW has its FAULT; NONE: it must be read. The TAPE is empty then, either way. */
    private static void law(String text, int fault) {
        GiftDuel x = new GiftDuel();
        due("LAW '" + text + "'", Check.law(x, text), fault == -1 ? 0 : -6);
        due("FAULT of LAW '" + text + "'", x.fault(), fault);
        due("LAWS behind '" + text + "'", x.count(4), fault == -1 ? 1 : 0);
        due("TAPE behind '" + text + "'", x.count(7), 0);
    }

    /** Where the ORDERS have their FAULT; NONE: they must be read, be they run or not. */
    private static void orders(String text, int fault) {
        GiftDuel x = new GiftDuel();
        Check.holds("ORDERS '" + text + "'", Check.orders(x, text) == -6 == (fault != -1));
        due("FAULT of ORDERS '" + text + "'", x.fault(), fault);
        due("TAPE behind '" + text + "'", x.count(7), 0);
    }

    /** "TEXTS are on a TAPE of at most 400 bytes": one of just so many is read whole. */
    private static void tapeOfFourHundred() {
        law("worth 7" + times(" ", 392) + "1", 399);
        law("worth " + times(" ", 393) + "7", -1);
        law("worth " + times("0", 391) + "777", -1);
        orders(times(" ", 396) + "wait", -1);
        orders(times(" ", 396) + "waxt", 396);
        GiftDuel x = new GiftDuel();
        for (int i = 0; i < 20; i++) {
            x.feed(0x20202020, 0x20202020, 0x20202020, 0x20202020, 0x20202020);
        }
        Edges.none("a TAPE of more than 400", x, y -> y.feed(0x61616161, 0, 0, 0, 0));
        due("blanks alone", x.law(), -6);
        due("FAULT at the end of 400", x.fault(), 400);
    }

    /** What one TEXT had (TOKENS, CLAUSES, PARTS, brackets) does not count for the next one. */
    private static void eachTextAnew() {
        GiftDuel x = Edges.hall(2);
        x.good(0, 77, 0);
        String parts = "wait if 1" + times("+1", 48) + "=49";
        for (int i = 0; i < 40; i++) {
            due("50 PARTS", Check.orders(x, parts), 1);
            due("12 CLAUSES", Check.orders(x, times("wait;", 11) + "wait"), 12);
            due("8 brackets", Check.orders(x, "wait if " + times("(", 8) + "1=1" + times(")", 8)), 1);
            due("a 13th CLAUSE", Check.orders(x, times("wait;", 12) + "wait"), -6);
        }
        due("a LAW of 50 PARTS", Check.law(x, "worth 1" + times("+1", 49)), 0);
        due("another", Check.law(x, "worth 2" + times("+2", 49)), 1);
        due("YEARS", x.count(14), 40 * 14);
        x.force(0);
        due("the first tells", x.asks(0, 1, 0), 50);
        x.force(1);
        due("the second tells", x.asks(0, 1, 0), 100);
        Check.orders(x, "wait times 5 if grain 1 = 3");
        due("no NUMBER of TIMES", Check.orders(x, "wait times year if grain 1 = 3"), -6);
        due("its FAULT", x.fault(), 11);
        due("no NUMBER of L", Check.orders(x, "wait times 5 if grain [ = 3"), -6);
        due("its FAULT", x.fault(), 22);
        law(times(";", 400), 0);
        law(times("(", 400), 0);
        law("bars if " + times("(", 392), 16);
        law("worth[" + times("0+", 49) + "0]" + times(";bars", 11) + times(" ", 238) + "!", 399);
    }

    /** "longest rows of letters a .. z": what stands just beside a and z is no letter. */
    private static void lettersAToZ() {
        law("worthbase", 0);
        law("worth basebase", 6);
        law("wor th 1", 0);
        law("worth`base", 5);
        law("worth{base", 5);
        law("worth base`", 10);
        law("worth base{", 10);
        law("Worth 1", 0);
        law("worth Base", 6);
        law("worth baseZ", 10);
        orders("waitwait", 0);
        orders("wait`", 4);
        orders("wai t", 0);
    }

    /** A word is known whole: neither what it begins with nor what it ends with is one, nor one with more behind it. */
    private static void wordsWhole() {
        for (String word : new String[] {"worth", "keeps", "bars"}) {
            law(word.substring(1) + " 1", 0);
            law(word.substring(0, word.length() - 1) + " 1", 0);
            law(word + "z 1", 0);
            law("a" + word + " 1", 0);
        }
        for (String word : new String[] {"good", "base", "keep", "given", "giver", "to", "year", "herald", "mood"}) {
            law("worth " + word.substring(1), 6);
            law("worth " + word.substring(0, word.length() - (word.startsWith("give") ? 2 : 1)), 6);
            law("worth " + word + "z", 6);
            law("worth " + word + " or", 7 + word.length());
        }
        for (String word : new String[] {"give 1 to 1", "wait"}) {
            orders(word.substring(1), 0);
            orders("z" + word, 0);
        }
        orders("wai", 0);
        orders("giv 1 to 1", 0);
        orders("wait time 2", 5);
        orders("wait imes 2", 5);
        orders("wait timess 2", 5);
        orders("wait i 1=1", 5);
        orders("give 1 too 1", 7);
        orders("give 1 t 1", 7);
        law("bars if 1=1 orr 1=1", 12);
        law("bars if 1=1 an 1=1", 12);
        law("bars if no 1=1", 8);
    }

    /** "of digits": what stands just beside 0 and 9 is no digit; digits and letters are TOKENS apart. */
    private static void digits() {
        law("worth 1 0", 8);
        law("worth 10", -1);
        law("worth 1:", 7);
        law("worth 6/2", -1);
        law("worth 6:2", 7);
        law("worth0if1=1", -1);
        law("worth 9x", 7);
        orders("wait times20if1=1", -1);
        orders("give0to1times2", -1);
    }

    /** "single other bytes": two of them are never one TOKEN; byte 0, 255 and a tab are such, too. */
    private static void singleOtherBytes() {
        law("worth [[1]]*[2]", -1);
        law("bars if((1=1))and[1]=[1];bars", -1);
        law("bars if 1 <= 2", 11);
        law("bars if 1 == 2", 11);
        law("bars if 1 <> 2", 11);
        law("worth 1 ++ 2", 9);
        law("worth\0001", 5);
        law("worth 1\u00ff", 7);
        law("worth\t1", 5);
        law("worth 1\n", 7);
        law("worth\u00a01", 5);
    }

    /** "any blanks (32) between": none, one or many; none within a TOKEN. */
    private static void anyBlanksBetween() {
        law("worth1", -1);
        law("worth 1", -1);
        law("   worth    1   ", -1);
        law("worth 1;   keeps 2", -1);
        law("worth 1   ;keeps 2", -1);
        orders("  wait  times  2  if  1  =  1  ", -1);
        orders("give 0 t o 1", 7);
    }

    /** "CLAUSE {";" CLAUSE}, 12 at most (FAULT at the 13th's first TOKEN)". */
    private static void twelveClauses() {
        law(times("bars;", 11) + "bars", -1);
        law(times("bars;", 12) + "bars", 60);
        law(times("bars;", 12) + "   bars", 63);
        law(times("bars;", 12) + "!", 60);
        law(times("bars;", 12), 60);
        law(times("bars;", 20) + "bars", 60);
        orders(times("wait;", 11) + "wait", -1);
        orders(times("wait;", 12) + "wait", 60);
        orders(times("wait;", 12) + "  wait", 62);
        GiftDuel x = Edges.hall(2);
        due("all twelve are run", Check.orders(x, times("wait;", 11) + "wait"), 12);
        x.good(0, 1, 1);
        Check.rule(x, times("worth 1;", 11) + "worth 12");
        due("the twelfth HOLDS, too", x.asks(0, 1, 0), 12);
    }

    /** "CLAUSE {";" CLAUSE}": behind ";" there must be one. */
    private static void clauseBehindASemicolon() {
        law(";", 0);
        law("bars;", 5);
        law("bars; ", 6);
        law("bars;;bars", 5);
        law(";bars", 0);
        orders("wait;", 5);
        orders("wait;;wait", 5);
    }

    /** "NUMBER (to 1,000)": by what it tells, not by its digits. */
    private static void numberToThousand() {
        law("worth 0", -1);
        law("worth 1000", -1);
        law("worth 1001", 6);
        law("worth 0001000", -1);
        law("worth 0001001", 6);
        law("worth 2147483648", 6);
        law("worth 4294967296", 6);
        law("worth 4294967297", 6);
        law("worth 18446744073709551617", 6);
        law("worth " + times("9", 300), 6);
        orders("give 1000 to 1000", -1);
        orders("give 1 to 1001", 10);
    }

    /** "50 PARTS that are NUMBERS and words (FAULT at the 51st)": in the whole TEXT; brackets are none. */
    private static void fiftyParts() {
        law("worth 1" + times("+1", 49), -1);
        law("worth 1" + times("+1", 49) + "+1", 106);
        law("worth base" + times("+1", 48) + "+base", -1);
        law("worth base" + times("+1", 48) + "+base+base", 112);
        law("worth [1]" + times("+[1]", 49), -1);
        law("worth [1]" + times("+[1]", 49) + "+[1]", 207);
        law("worth 1" + times("+1", 24) + ";keeps 1" + times("+1", 24), -1);
        law("worth 1" + times("+1", 24) + ";keeps 1" + times("+1", 24) + ";keeps 1", 118);
        law("worth 1" + times("+1", 47) + " if 1=1", -1);
        law("worth 1" + times("+1", 48) + " if 1=1", 109);
    }

    /** "L, G, TIMES aside, NUMBERS and words count as PARTS". */
    private static void partsOfOrders() {
        orders("give 1" + times("+1", 48) + " to 1", -1);
        orders("give 1" + times("+1", 49) + " to 1", 108);
        orders("give grain 1" + times("+1", 48) + " to owed 5", -1);
        orders("give holder 15" + times("+holder 15", 14) + times("+1", 10)
                + " to owed 5" + times("+owed 5", 14) + times("+1", 10), -1);
        orders("give 1" + times("+1", 48) + " to 1 times 20", -1);
        orders("give 1" + times("+1", 46) + " to 1 times 20 if year=1", -1);
        orders("give 1" + times("+1", 47) + " to 1 times 20 if year=1", 123);
        orders("wait if 1" + times("+1", 49) + "=grain 9", 108);
    }

    /** "8 brackets of both kinds within one another (FAULT at the 9th)": those that are shut again do not count. */
    private static void eightBrackets() {
        law("worth " + times("[", 8) + "1" + times("]", 8), -1);
        law("worth " + times("[", 9) + "1" + times("]", 9), 14);
        law("bars if " + times("(", 8) + "1=1" + times(")", 8), -1);
        law("bars if " + times("(", 9) + "1=1" + times(")", 9), 16);
        law("bars if " + times("(", 4) + times("[", 4) + "1" + times("]", 4) + "=1" + times(")", 4), -1);
        law("bars if " + times("(", 4) + times("[", 5) + "1" + times("]", 5) + "=1" + times(")", 4), 16);
        law("bars if " + times("(", 7) + "[1]=[1]" + times(")", 7), -1);
        law("bars if " + times("(", 8) + "[1]=1" + times(")", 8), 16);
        law("worth " + times("[1]+", 30) + times("[", 8) + "1" + times("]", 8), -1);
        law("worth " + times("[", 8) + "1" + times("]", 8) + "+" + times("[", 9) + "1", 32);
        orders("give " + times("[", 8) + "1" + times("]", 8) + " to 1", -1);
        orders("give " + times("[", 9) + "1" + times("]", 9) + " to 1", 13);
        orders("wait if " + times("(", 8) + "1=1" + times(")", 8), -1);
        orders("wait if " + times("(", 9) + "1=1" + times(")", 9), 16);
    }

    /** "FAULT: the first TOKEN that can't go on there". */
    private static void faultIsTheFirstTokenThatCantGoOn() {
        law("keeps 1 2 1001", 8);
        law("bars 1", 5);
        law("bars bars", 5);
        law("worth worth", 6);
        law("worth (1)", 6);
        law("worth -1", 6);
        law("bars if (1) = 1", 10);
        law("bars if [1 = 1]", 11);
        law("bars if 1 = 1 = 1", 14);
        law("bars if not [1] = 1 or ) ", 23);
        law("worth 1 if 1 = 1 worth 2", 17);
        law("worth 1 if 1 = 1 if 2 = 2", 17);
        law("worth 1)", 7);
        law("worth [1)", 8);
        law("bars if (1=1]", 12);
        orders("give 1 2", 7);
        orders("give 1; wait", 6);
        orders("wait to 1", 5);
        orders("wait times 0", 11);
        orders("wait times 21", 11);
        orders("wait times 1", -1);
        orders("wait times 20", -1);
        orders("wait times [2]", 11);
        orders("wait times done", 11);
        orders("wait if 1 = 1 times 2", 14);
        orders("wait times 2 times 2", 13);
        lordsAndGoodsOfWords();
    }

    /** "L: a NUMBER 0 .. 5, G: 0 .. 15". */
    private static void lordsAndGoodsOfWords() {
        for (String word : new String[] {"grain", "owed"}) {
            String text = "wait if 1 = " + word;
            orders(text + " 0", -1);
            orders(text + " 5", -1);
            orders(text + " 6", text.length() + 1);
            orders(text + " 15", text.length() + 1);
            orders(text + " 4294967296", text.length() + 1);
            orders(text + " [1]", text.length() + 1);
            orders(text + " year", text.length() + 1);
            orders(text + "  ", text.length() + 2);
        }
        orders("wait if 1 = holder 0", -1);
        orders("wait if 1 = holder 15", -1);
        orders("wait if 1 = holder 16", 19);
        orders("wait if 1 = holder 999999999999", 19);
        orders("wait if 1 = holder goods", 19);
        orders("wait if 1 = holder", 18);
    }

    /** What could go on outside of brackets can't within them. */
    private static void faultWithinBrackets() {
        law("worth [;worth 1", 7);
        law("worth [1;worth 1]", 8);
        law("worth [ if 1=1", 8);
        law("worth [1 if 1=1]", 9);
        law("worth []", 7);
        law("worth [+1]", 7);
        law("bars if ()", 9);
        law("bars if (;bars", 9);
        law("bars if (1=1;bars)", 12);
        law("bars if (and 1=1", 9);
        law("bars if (1 and 1=1)", 11);
        law("bars if [(1=1)]", 9);
        law("bars if [not 1]=1", 9);
        law("bars if [1=1] or 1=1", 10);
        orders("give [ to 1", 7);
        orders("give [1 to 1]", 8);
        orders("wait if (times 2", 9);
    }

    /** "(the end's: the TEXT's length)": blanks at the end belong to it; "blanks alone: FAULT at the end". */
    private static void faultAtTheEndIsTheLength() {
        law("", 0);
        law(" ", 1);
        law("    ", 4);
        law("worth", 5);
        law("worth   ", 8);
        law("worth 1 +", 9);
        law("worth [1", 8);
        law("worth [1 ", 9);
        law("worth 1 if", 10);
        law("bars if not", 11);
        law("bars if 1", 9);
        law("bars if 1 =", 11);
        law("bars if (1 = 1", 14);
        law("bars if 1 = 1 and", 17);
        orders("", 0);
        orders("   ", 3);
        orders("give", 4);
        orders("give 1", 6);
        orders("give 1 to", 9);
        orders("give 1 to  ", 11);
        orders("wait times", 10);
        orders("wait if", 7);
        orders("wait if grain", 13);
    }

    /** "Words" are those of the language that is read: of LAWS by law(), of ORDERS by orders(). */
    private static void textsOfTheOtherLanguage() {
        for (String word : new String[] {"good", "base", "keep", "given", "giver", "herald", "mood"}) {
            law("worth " + word, -1);
            orders("give " + word + " to 1", 5);
        }
        for (String word : new String[] {"goods", "done", "last", "grain 1", "holder 1", "owed 1"}) {
            law("worth " + word, 6);
            orders("give " + word + " to 1", -1);
        }
        law("worth year", -1);
        orders("give year to year", -1);
        law("worth to", -1);
        orders("give to to 1", 5);
        for (String word : new String[] {"worth", "keeps", "bars", "if", "or", "and", "not", "give", "wait", "times"}) {
            law("worth " + word, 6);
            orders("give " + word + " to 1", 5);
        }
        law("wait", 0);
        law("give 1 to 1", 0);
        law("worth 1 times 2", 8);
        orders("worth 1", 0);
        orders("keeps 1", 0);
        orders("bars", 0);
    }

    /** GOOD 0 of LORD 0: BASE 77, KEEP 5; the LAW is in FORCE. */
    private static GiftDuel under(String law) {
        GiftDuel x = Edges.hall(2);
        x.good(0, 77, 5);
        Check.rule(x, law);
        return x;
    }

    private static void tells(String sum, int want) {
        due("worth " + sum, under("worth " + sum).asks(0, 1, 0), want);
    }

    private static void broken(String sum) {
        tells(sum, 77);
    }

    private static void so(String test, boolean want) {
        due("bars if " + test, under("bars if " + test).asks(0, 1, 1), want ? 1 : 0);
    }

    /** "Beyond 1,000,000,000 either way": just so much is not beyond. */
    private static void beyondAThousandMillion() {
        String most = "1000*1000*1000";
        tells("[" + most + "]/1000/1000/10", 100);
        tells("[" + most + "]-[" + most + "]+3", 3);
        tells("[0-" + most + "]+[" + most + "]+3", 3);
        broken("[" + most + "+1]*0");
        broken("[0-" + most + "-1]*0");
        broken(most + "*2*0");
        broken("[0-" + most + "]*2*0");
        so(most + " > 1", true);
        so("not " + most + "+1 > 1", false);
        so("0-" + most + " < 1", true);
        so("not 0-" + most + "-1 > 1", false);
        so("not 1 > " + most + "+1", false);
    }

    /** A SUM is BROKEN by what comes up on its way, however large (it never wraps round), and by what its brackets tell. */
    private static void brokenOnTheWay() {
        broken("1000*1000*1000+1-1");
        broken("0-1000*1000*1000-1+2");
        broken("[1000*1000*1000]*[1000*1000*1000]");
        broken("[1000*1000*1000]*[0-1000*1000*1000]");
        broken("1000*1000*1000*1000*1000*1000*1000*0");
        broken("[1000*1000*1000*5]*0");
        broken("1+[1000*1000*1000+1000*1000*1000]*0");
        broken("0*[1/0]");
        broken("5 if 1000*1000*1000+1 > 0");
    }

    /** "or divided by 0": by / and by %; 0 itself is divided. */
    private static void dividedByZero() {
        broken("1/0");
        broken("1%0");
        broken("0/0");
        broken("0%0");
        broken("1/[3-3]");
        broken("1%[3-3]");
        broken("1/0*0");
        tells("0/5", 0);
        tells("0%5+4", 4);
        so("1/0 = 1/0", false);
        so("not 1%0 = 0", false);
    }

    /** "(/ cut towards 0, % what is left then)": below 0, too. */
    private static void cutTowardsZero() {
        tells("7/2", 3);
        tells("7%2", 1);
        tells("10+[0-7]/2", 7);
        tells("10+[0-7]%2", 9);
        tells("10+7/[0-2]", 7);
        tells("10+7%[0-2]", 11);
        tells("10+[0-7]/[0-2]", 13);
        tells("10+[0-7]%[0-2]", 9);
        tells("10+[0-1]/2", 10);
        tells("10+[0-6]%3", 10);
    }

    /** ""or", "and" ask what stands behind only if it can still matter; a part that was asked and is BROKEN ..". */
    private static void orAndAskOnlyIfItMatters() {
        so("1=1 or 1/0=1", true);
        so("1=2 or 1/0=1", false);
        so("1/0=1 or 1=1", false);
        so("1=2 or 1=1 or 1/0=1", true);
        so("1=2 or 1/0=1 or 1=1", false);
        so("not (1=2 and 1/0=1)", true);
        so("not (1=1 and 1/0=1)", false);
        so("not (1/0=1 and 1=2)", false);
        so("not (1=1 and 1=2 and 1/0=1)", true);
        so("1=2 and 1/0=1 or 1=1", true);
        so("1=1 and 1/0=1 or 1=1", false);
        so("1=1 or 1=1 and 1/0=1", true);
        so("(1=1 or 1/0=1) and (1=1 or 1/0=1)", true);
        so("(1=2 or 1=1) and not (1=2 and 1/0=1)", true);
        so("1=1 or (1=1 and (1=1 or 1=1) and 1/0=1)", true);
    }

    /** "not" PLAIN: what is so is not, over and over, in brackets, too. */
    private static void notTurns() {
        so("not 1=1", false);
        so("not 1=2", true);
        so("not not 1=1", true);
        so("not not not 1=1", false);
        so("not (not 1=1)", true);
        so("not (not (not 1=1))", false);
        so("not (not 1=1 and 1=1)", true);
        so("not (not 1=1) and 1=1", true);
        so("not (not 1=1) or 1=2", true);
        so("1=2 or not (not 1=2)", false);
        so("not 1=1 or 1=1", true);
        so("not 1=2 and 1=2", false);
        so("not 1=1 and 1=1", false);
    }

    /** "LAWS, 6 at most". */
    private static void lawsSixAtMost() {
        GiftDuel x = Edges.halls(2);
        for (int i = 0; i <= 5; i++) {
            due("LAW " + i, Check.law(x, "worth 50 + " + i), i);
        }
        due("a seventh", Check.law(x, "worth 60"), -5);
        due("six", x.count(4), 6);
        for (int i = 0; i <= 5; i++) {
            x.force(i);
            due("LAW " + i + " tells", x.asks(0, 1, 0), 50 + i);
        }
        Edges.refused("a seventh in FORCE", x, -2, y -> y.force(6));
    }

    /** "one is in FORCE (NONE at first: no CLAUSE)": a LAW that is read is not in FORCE. */
    private static void noneInForceAtFirst() {
        GiftDuel x = Edges.hall(2);
        x.good(0, 77, 5);
        due("none at first", x.count(13), -1);
        due("a LAW", Check.law(x, "worth 1; keeps 1; bars"), 0);
        due("none still", x.count(13), -1);
        due("BASE", x.asks(0, 1, 0), 77);
        due("KEEP", x.at(0, 5), 5);
        due("not BARRED", x.asks(0, 1, 1), 0);
        x.force(0);
        due("WORTH by LAW", x.asks(0, 1, 0), 1);
        due("COSTS by LAW", x.at(0, 5), 1);
        due("BARRED by LAW", x.asks(0, 1, 1), 1);
        x.force(-1);
        due("BASE again", x.asks(0, 1, 0), 77);
    }

    /** "Words": what each tells of a gift, of what is COST, of a HERALD; "in a YEAR". */
    private static void namedWords() {
        GiftDuel x = Edges.hall(4);
        x.good(0, 1, 1);
        x.good(1, 20, 7);
        x.good(2, 99, 13);
        x.give(2, 3);
        x.give(2, 0);
        x.terms(0, 41);
        x.terms(2, 6);
        x.herald(1);
        x.herald(1);
        String[] words = {"good", "base", "keep", "given", "giver+5", "to+5", "year", "herald+5", "mood"};
        int[] gift = {2, 99, 13, 2, 5, 8, 41, 4, 6};
        int[] kept = {2, 99, 13, 2, 4, 5, 41, 4, 6};
        int[] heard = {2, 99, 13, 2, 4, 4, 41, 6, 6};
        for (int i = 0; i < words.length; i++) {
            x.image(0);
            Check.rule(x, "worth " + words[i] + "; keeps " + words[i] + "; bars if " + words[i] + "=" + gift[i]);
            due(words[i] + " of a gift", x.asks(2, 3, 0), gift[i]);
            due(words[i] + " of a BARRED one", x.asks(2, 3, 1), 1);
            due(words[i] + " of what it COSTS", x.at(2, 5), kept[i]);
            due(words[i] + " of a HERALD", x.tells(1, 2), heard[i]);
            x.back(0);
        }
        Check.rule(x, "keeps to * 10 + good");
        due("all that 0 holds COSTS", x.of(0, 7), 0 + 2);
        due("all that 1 holds COSTS", x.of(1, 7), 11);
        x.await();
        due("1 pays", x.of(1, 0), 89);
        due("1 is RUINED when", x.ruin(1, 99), 42 + 9);
    }

    /** "what is not named is -1": herald of a gift; giver, herald of what it COSTS; giver, to of what a HERALD TELLS. */
    private static void notNamedIsBelow() {
        GiftDuel x = Edges.hall(2);
        x.good(0, 77, 5);
        x.good(1, 77, 5);
        x.herald(1);
        Check.rule(x, "worth [giver+2]*100+[to+2]*10+herald+2; keeps [giver+2]*30+[to+2]*10+herald+2;"
                + "bars if herald = 0-1 and giver = 1");
        due("a gift of 0 to 1", x.asks(0, 1, 0), 231);
        due("a gift of 1 to 0", x.asks(1, 0, 0), 321);
        due("COSTS of 0", x.at(0, 5), 51);
        due("COSTS of 1", x.at(1, 5), 61);
        due("HERALD 0", x.tells(0, 0), 112);
        due("BARRED of 1", x.asks(1, 0, 1), 1);
        due("not BARRED of 0", x.asks(0, 1, 1), 0);
    }

    /** "but mood always". */
    private static void moodIsAlwaysNamed() {
        GiftDuel x = under("worth mood; keeps mood; bars if mood = 0");
        x.herald(1);
        due("of a gift at first", x.asks(0, 1, 0), 0);
        due("BARRED at first", x.asks(0, 1, 1), 1);
        x.terms(2, 9);
        due("of a gift", x.asks(0, 1, 0), 9);
        due("of COSTS", x.at(0, 5), 9);
        due("of a HERALD", x.tells(0, 0), 9);
        due("BARRED no more", x.asks(0, 1, 1), 0);
    }

    /** "A CLAUSE HOLDS, if its "if" (if it has one) is so, and neither that nor its SUM is BROKEN". */
    private static void clauseHolds() {
        tells("3", 3);
        tells("3 if 1=1", 3);
        tells("3 if 1=2", 77);
        tells("3 if 1/0=1", 77);
        tells("3 if not 1/0=1", 77);
        tells("1/0 if 1=1", 77);
        tells("1/0", 77);
        due("bars alone", under("bars").asks(0, 1, 1), 1);
        due("keeps BROKEN", under("keeps 1/0").at(0, 5), 5);
        due("keeps if BROKEN", under("keeps 1 if 1/0=1").at(0, 5), 5);
    }

    /** "It is WORTH what the last "worth" that HOLDS tells, .. its BASE without". */
    private static void lastWorthThatHolds() {
        tells("1; worth 2; worth 3", 3);
        tells("1; worth 2; worth 3 if 1=2", 2);
        tells("1; worth 2 if 1/0=1; worth 3/0", 1);
        tells("1 if 1=2; worth 3/0", 77);
        tells("1; keeps 9; bars", 1);
        due("no worth", under("keeps 9; bars").asks(0, 1, 0), 77);
        due("no keeps", under("worth 9; bars").at(0, 5), 5);
        due("last keeps", under("keeps 1; keeps 2; keeps 3 if 1=2; worth 4").at(0, 5), 2);
    }

    /** "0 .. 999 (else the nearest)". */
    private static void worthNearest() {
        tells("0", 0);
        tells("0-1", 0);
        tells("0-1000*1000*1000", 0);
        tells("999", 999);
        tells("1000", 999);
        tells("1000*1000*1000", 999);
        tells("998", 998);
        GiftDuel x = under("worth 1000");
        due("the gift is of 999", x.give(0, 1), 999);
        due("so is its challenge", x.debt(1, 0, 0), 999);
    }

    /** "a HERALD TELLS likewise": the last that HOLDS, 0 .. 999, BASE without. */
    private static void heraldTellsLikewise() {
        String[] sums = {"1000", "999", "0-1", "0", "5; worth 6", "5; worth 6 if 1=2", "5; worth 1/0", "1/0", "5 if 1/0=1"};
        int[] due = {999, 999, 0, 0, 6, 5, 5, 77, 77};
        for (int i = 0; i < sums.length; i++) {
            GiftDuel x = under("worth " + sums[i]);
            x.herald(1);
            due("a HERALD of worth " + sums[i], x.tells(0, 0), due[i]);
            due("all of worth " + sums[i], x.tells(-1, 0), due[i]);
        }
    }

    /** "it COSTS its HOLDER what "keeps" tells, 0 .. 99, KEEP without". */
    private static void costsNearest() {
        int[] tells = {0, 1, 98, 99};
        for (int n : tells) {
            due("keeps " + n, under("keeps " + n).at(0, 5), n);
        }
        due("keeps 100", under("keeps 100").at(0, 5), 99);
        due("keeps far", under("keeps 1000*1000*1000").at(0, 5), 99);
        due("keeps -1", under("keeps 0-1").at(0, 5), 0);
        due("keeps far below", under("keeps 0-1000*1000*1000").at(0, 5), 0);
        GiftDuel x = under("keeps 100");
        x.await();
        due("99 are paid", x.of(0, 0), 1);
        due("all it COSTS", x.of(0, 7), 99);
    }

    /** "a gift is BARRED, if "bars" HOLDS": one of them is enough. */
    private static void barredIfOneHolds() {
        due("first alone", under("bars if 1=1; bars if 1=2").asks(0, 1, 1), 1);
        due("last alone", under("bars if 1=2; bars if 1=1").asks(0, 1, 1), 1);
        due("none", under("bars if 1=2; bars if 1=3").asks(0, 1, 1), 0);
        due("BROKEN ones do not", under("bars if 1/0=1; bars if not 1/0=1").asks(0, 1, 1), 0);
        due("BROKEN ones are in nobody's way", under("bars if 1/0=1; bars; bars if 1/0=1").asks(0, 1, 1), 1);
    }
}
