/** Both languages: where FAULTS are, what SUMS and TESTS tell, when they are BROKEN. */
public final class TextsTest {
    public static void main(String[] args) {
        tokens();
        lawFaults();
        orderFaults();
        manyClauses();
        manyParts();
        manyBrackets();
        longTexts();
        sums();
        tests();
        broken();
        clauses();
        Check.finish("TextsTest");
    }

    private static String times(String text, int n) {
        return text.repeat(n);
    }

    /** The FAULT of a LAW; NONE if it is one. */
    private static void lawFault(String text, int place) {
        GiftDuel x = new GiftDuel();
        int answer = Check.law(x, text);
        Check.due("law '" + text + "'", answer, place == -1 ? 0 : -6);
        Check.due("fault of law '" + text + "'", x.fault(), place);
    }

    private static void orderFault(String text, int place) {
        GiftDuel x = new GiftDuel();
        int answer = Check.orders(x, text);
        Check.holds("orders '" + text + "'", answer == -6 == (place != -1));
        Check.due("fault of orders '" + text + "'", x.fault(), place);
    }

    private static void tokens() {
        lawFault("worth1", -1);
        lawFault("  worth   1  ", -1);
        lawFault("worth 1if 2<3", -1);
        lawFault("worth 1 if 2<3or 4>5and 6=7", -1);
        lawFault("worthbase", 0);
        lawFault("Worth 1", 0);
        lawFault("worth 1 2", 8);
        lawFault("worth 1x", 7);
        lawFault("worth\t1", 5);
        lawFault("worth\n1", 5);
        lawFault("worth 0001000", -1);
        lawFault("worth 00000000000000000000000000000000000000000000000001", -1);
        lawFault("worth 1001", 6);
        lawFault("worth 99999999999999999999999999999999", 6);
        lawFault("worth 4294967297", 6);
        lawFault("worth \u00ff", 6);
        lawFault("worth \0", 6);
        lawFault("wort", 0);
        lawFault("worthz 1", 0);
        lawFault("worth aza", 6);
        lawFault("worth 1{", 7);
        lawFault("worth 1`", 7);
        lawFault("worth 1:", 7);
        lawFault("worthy 1", 0);
        lawFault("", 0);
        lawFault("    ", 4);
    }

    private static void lawFaults() {
        lawFault("worth", 5);
        lawFault("worth  ", 7);
        lawFault("keeps", 5);
        lawFault("bars", -1);
        lawFault("bars 1", 5);
        lawFault("bars if", 7);
        lawFault("bars if 1", 9);
        lawFault("bars if 1 <", 11);
        lawFault("bars if 1 < 2 < 3", 14);
        lawFault("bars if (1 < 2) = 3", 16);
        lawFault("bars if (1) < 2", 10);
        lawFault("bars if [1] < 2", -1);
        lawFault("bars if [1 < 2]", 11);
        lawFault("bars if not", 11);
        lawFault("bars if not 1", 13);
        lawFault("bars if 1 < 2 and", 17);
        lawFault("bars if 1 < 2 or or", 17);
        lawFault("bars if 1 < 2 not", 14);
        lawFault("worth (1)", 6);
        lawFault("worth [1", 8);
        lawFault("worth [1)", 8);
        lawFault("worth - 1", 6);
        lawFault("worth 1 + - 1", 10);
        lawFault("worth 1 +", 9);
        lawFault("worth to", -1);
        lawFault("worth goods", 6);
        lawFault("worth grain 1", 6);
        lawFault("worth if", 6);
        lawFault("worth 1 if 1 = 1 if 1 = 1", 17);
        lawFault("worth 1 times 2", 8);
        lawFault("wait", 0);
        lawFault("give 1 to 2", 0);
        lawFault(";", 0);
        lawFault("worth 1;", 8);
        lawFault("worth 1;;worth 2", 8);
        lawFault("worth 1; keeps", 14);
        lawFault("worth 1 ; keeps 2;bars", -1);
        lawFault("good", 0);
    }

    private static void orderFaults() {
        orderFault("wait", -1);
        orderFault("wait wait", 5);
        orderFault("wait 1", 5);
        orderFault("wait times", 10);
        orderFault("wait times 0", 11);
        orderFault("wait times 21", 11);
        orderFault("wait times 20", -1);
        orderFault("wait times 0020", -1);
        orderFault("wait times year", 11);
        orderFault("wait times 2 times 3", 13);
        orderFault("wait if 1 = 1 times 2", 14);
        orderFault("wait times 2 if 1 = 0", -1);
        orderFault("give", 4);
        orderFault("give 1", 6);
        orderFault("give 1 1", 7);
        orderFault("give 1 to", 9);
        orderFault("give 1 to to", 10);
        orderFault("give to 1", 5);
        orderFault("give 1 to 2 to 3", 12);
        orderFault("give base to 1", 5);
        orderFault("give year to 1", -1);
        orderFault("give grain to 1", 11);
        orderFault("give grain 6 to 1", 11);
        orderFault("give grain 5 to 1", -1);
        orderFault("give grain 005 to 1", -1);
        orderFault("give owed 6 to 1", 10);
        orderFault("give owed 5 to 1", -1);
        orderFault("give holder 16 to 1", 12);
        orderFault("give holder 15 to 1", -1);
        orderFault("give holder [1] to 1", 12);
        orderFault("give last + done * goods to 1", -1);
        orderFault("give 1001 to 1", 5);
        orderFault("give 1000 to 1", -1);
        orderFault("worth 1", 0);
        orderFault("bars", 0);
        orderFault("wait;", 5);
        orderFault("wait ; wait", -1);
        orderFault("give 1 to 2 if mood = 1", 15);
        orderFault("give 1 to (2)", 10);
    }

    private static void manyClauses() {
        lawFault(times("bars;", 11) + "bars", -1);
        lawFault(times("bars;", 12) + "bars", 60);
        lawFault(times("bars;", 12) + "  nonsense", 62);
        lawFault(times("bars;", 12), 60);
        lawFault(times("bars;", 12) + " ", 61);
        lawFault(times("bars;", 11) + "bars bars", 60);
        orderFault(times("wait;", 11) + "wait", -1);
        orderFault(times("wait;", 12) + "wait", 60);
    }

    private static void manyParts() {
        lawFault("worth 1" + times("+1", 49), -1);
        lawFault("worth 1" + times("+1", 50), 106);
        lawFault("worth 1" + times("+1", 49) + "+[1]", 107);
        lawFault("worth 1" + times("+1", 49) + "+base", 106);
        lawFault("worth 1" + times("+1", 48) + "; bars if 1 = 1", 117);
        lawFault("worth 1" + times("+1", 47) + "; bars if 1 = 1", -1);
        lawFault("worth 1" + times("+1", 49) + "; bars", -1);
        orderFault("give grain 1" + times("+owed 1", 48) + " to 1", -1);
        orderFault("give 1" + times("+1", 47) + " to 1 times 20 if holder 15 = 1", 130);
        orderFault("give 1" + times("+1", 46) + " to 1 times 20 if holder 15 = 1", -1);
        orderFault("give grain 1" + times("+1", 49) + " to 1", 114);
        orderFault("wait if 1" + times("+1", 49) + "= owed 9", 109);
    }

    private static void manyBrackets() {
        lawFault("worth " + times("[", 8) + "1" + times("]", 8), -1);
        lawFault("worth " + times("[", 9) + "1" + times("]", 9), 14);
        lawFault("bars if " + times("(", 8) + "1=1" + times(")", 8), -1);
        lawFault("bars if " + times("(", 9) + "1=1" + times(")", 9), 16);
        lawFault("bars if " + times("(", 5) + times("[", 3) + "1" + times("]", 3) + "=1" + times(")", 5), -1);
        lawFault("bars if " + times("(", 5) + times("[", 4) + "1" + times("]", 4) + "=1" + times(")", 5), 16);
        lawFault("bars if " + times("(", 5) + "1=1" + times(")", 5) + " and "
                + times("(", 8) + "1=1" + times(")", 8), -1);
        lawFault("worth " + times("[1]+", 20) + times("[", 8) + "1" + times("]", 8), -1);
        lawFault("bars if " + times("not (", 8) + "1=1" + times(")", 8), -1);
        lawFault("bars if " + times("not (", 9) + "1=1" + times(")", 9), 52);
    }

    private static void longTexts() {
        lawFault("bars if " + times("not ", 97) + "1=1", -1);
        lawFault("bars if " + times("not ", 98), 400);
        lawFault("worth 1" + times(" ", 393), -1);
        lawFault(times(" ", 400), 400);
        lawFault(times("[", 400), 0);
        lawFault("worth " + times("[", 394), 14);
        lawFault("worth " + times("9", 394), 6);
        lawFault("worth " + times("0", 394), -1);
        lawFault(times("a", 400), 0);
        lawFault(times(";", 400), 0);
    }

    private static GiftDuel hall(String law) {
        GiftDuel x = new GiftDuel();
        x.lord(100, 0);
        x.lord(100, 0);
        x.good(0, 77, 5);
        Check.rule(x, law);
        return x;
    }

    /** What the SUM tells; 77 without. */
    private static void worth(String sum, int want) {
        Check.due("worth " + sum, hall("worth " + sum).asks(0, 1, 0), want);
    }

    private static void sums() {
        worth("1 + 2 * 3", 7);
        worth("[1 + 2] * 3", 9);
        worth("10 - 2 - 3", 5);
        worth("10 - [2 - 3]", 11);
        worth("100 / 10 / 2", 5);
        worth("100 / 7 * 7", 98);
        worth("100 % 7 * 7", 14);
        worth("2 * 3 % 4", 2);
        worth("10 + [0 - 7] / 2", 7);
        worth("10 + [0 - 7] % 2", 9);
        worth("10 + 7 % [0 - 2]", 11);
        worth("10 + 7 / [0 - 2]", 7);
        worth("1000", 999);
        worth("0 - 1", 0);
        worth("1000 * 1000 * 1000 / 1000 / 1000 / 1000", 1);
        worth("0 - 1000 * 1000 * 1000 + 1000 * 1000 * 1000 + 5", 5);
        worth("good + base + keep + given + giver + to + year + herald + mood", 0 + 77 + 5 + 0 + 0 + 1 + 0 - 1 + 0);
        worth("[[[[[[[[8]]]]]]]]", 8);
        worth("0 - [1 - [2 - [3 - [4 - [5 - [6 - [7 - [8]]]]]]]] + 9", 13);
        worth("1+2*[3+4*[5+6*[7+8*[9+1*[2+3*[4+5*[6+7*[1]]]]]]]]", 999);
    }

    private static void so(String test, boolean want) {
        Check.due("bars if " + test, hall("bars if " + test).asks(0, 1, 1), want ? 1 : 0);
    }

    private static void tests() {
        so("1 < 2", true);
        so("2 < 2", false);
        so("3 > 2", true);
        so("2 > 2", false);
        so("2 = 2", true);
        so("2 = 3", false);
        so("not 2 = 3", true);
        so("not not 2 = 3", false);
        so("not not not 2 = 3", true);
        so("1 = 1 or 1 = 1 and 1 = 2", true);
        so("(1 = 1 or 1 = 1) and 1 = 2", false);
        so("1 = 2 and 1 = 1 or 1 = 1", true);
        so("1 = 2 and (1 = 1 or 1 = 1)", false);
        so("not 1 = 2 and 1 = 2", false);
        so("not (1 = 2 and 1 = 2)", true);
        so("not 1 = 1 or 1 = 1", true);
        so("1 = 2 or 2 = 3 or 3 = 3", true);
        so("1 = 1 and 2 = 2 and 3 = 4", false);
        so("1 = 2 or 1 = 3 and 1 = 1 or 4 = 4", true);
        so("[1 + 1] * 2 = 4", true);
        so("((1 < 2) and not (2 < 1)) or 1 / 0 = 1", true);
    }

    private static void broken() {
        worth("1 / 0", 77);
        worth("1 % 0", 77);
        worth("1000 * 1000 * 1000 + 1", 77);
        worth("0 - 1000 * 1000 * 1000 - 1", 77);
        worth("1000 * 1000 * 1000 * 0", 0);
        worth("1000 * 1000 * 1000 * 2 * 0", 77);
        worth("[1000 * 1000 * 1000 + 1] * 0", 77);
        worth("1000 * 1000 * 1000 * 1000 * 1000 * 1000 * 1000", 77);
        worth("[1000 * 1000 * 1000] * [1000 * 1000 * 1000]", 77);
        worth("0 * [1 / 0]", 77);
        worth("0 / 5", 0);
        worth("1 if 1 / 0 = 1", 77);
        so("1 / 0 = 1", false);
        so("not 1 / 0 = 1", false);
        so("1 = 1 or 1 / 0 = 1", true);
        so("1 / 0 = 1 or 1 = 1", false);
        so("1 = 2 and 1 / 0 = 1", false);
        so("not (1 = 2 and 1 / 0 = 1)", true);
        so("not (1 = 1 and 1 / 0 = 1)", false);
        so("1 = 1 and 1 / 0 = 1 or 1 = 1", false);
        so("1 = 2 and 1 / 0 = 1 or 1 = 1", true);
        so("1 = 1 or 1 / 0 = 1 and 1 / 0 = 1", true);
        so("(1 = 1 or 1 / 0 = 1) and 1 = 1", true);
        so("1 = 2 or 1 / 0 = 1", false);
        so("1 = 2 or not 1 / 0 = 1 or 1 = 1", false);
        so("1 / 0 = 1 / 0", false);
    }

    private static void clauses() {
        worth("1; worth 2", 2);
        worth("1; worth 2 if 1 = 2", 1);
        worth("1; worth 2 / 0", 1);
        worth("1; worth 2 if 1 / 0 = 0", 1);
        worth("1; keeps 2; bars", 1);
        worth("1 if 1 = 2; worth 2 if 1 = 2", 77);
        Check.due("keeps", hall("keeps 9; keeps 1 / 0; worth 3").at(0, 5), 9);
        Check.due("keeps above", hall("keeps 100").at(0, 5), 99);
        Check.due("keeps below", hall("keeps 0 - 1").at(0, 5), 0);
        Check.due("keeps none", hall("keeps 1 if 1 = 2").at(0, 5), 5);
        Check.due("keeps words", hall("keeps [giver + 2] * 10 + to + 2 + herald").at(0, 5), 11);
        Check.due("bars any", hall("bars if 1 = 1; bars if 1 = 2").asks(0, 1, 1), 1);
        Check.due("bars none", hall("bars if 1 / 0 = 1; bars if 1 = 2").asks(0, 1, 1), 0);
        Check.due("bars alone", hall("bars").asks(0, 1, 1), 1);
    }
}
