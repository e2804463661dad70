/** Each promise of the document: ordinary calls, the edges that it names, wrong calls. */
public final class PromisesTest {
    public static void main(String[] args) {
        newObject();
        lordAndOf();
        put();
        goodAndAt();
        terms();
        feedAndEnd();
        rowAndDross();
        law();
        orders();
        faultAndStopped();
        force();
        asks();
        give();
        challenges();
        await();
        ruinedLords();
        undo();
        debtAndOwed();
        duel();
        duelGrain();
        ruin();
        siege();
        heraldAndTells();
        bribe();
        road();
        way();
        ring();
        shelf();
        found();
        beats();
        generation();
        drawn();
        images();
        countAndStatus();
        Check.allPromises();
        Check.finish("PromisesTest");
    }

    private static void due(String call, long got, long want) {
        Check.due(call, got, want);
    }

    /** Three LORDS of 100 GRAIN each, without HARVEST. */
    private static GiftDuel hall() {
        GiftDuel x = new GiftDuel();
        for (int i = 0; i < 3; i++) {
            x.lord(100, 0);
        }
        return x;
    }

    private static void newObject() {
        GiftDuel x = new GiftDuel();
        for (int what = 0; what <= 12; what++) {
            due("1: count(" + what + ")", x.count(what), 0);
        }
        due("1: count(13)", x.count(13), -1);
        due("1: count(14)", x.count(14), 0);
        due("1: count(15)", x.count(15), 1);
        due("1: count(16)", x.count(16), 0);
        due("1: dross", x.dross(), 0);
        due("1: fault", x.fault(), -1);
        due("1: stopped", x.stopped(), -1);
        due("1: status", x.status(), 0);
        due("1: NONE", GiftDuel.NONE, -1);
    }

    private static void lordAndOf() {
        GiftDuel x = new GiftDuel();
        due("2: grain below", x.lord(-1, 0), -1);
        due("2: grain above", x.lord(10000, 0), -1);
        due("2: harvest below", x.lord(0, -1), -1);
        due("2: harvest above", x.lord(0, 100), -1);
        due("2: first", x.lord(9999, 99), 0);
        due("2: second", x.lord(0, 0), 1);
        for (int i = 2; i < 6; i++) {
            due("2: next", x.lord(i, i), i);
        }
        due("2: no room", x.lord(1, 1), -5);
        due("2: -1 ahead of -5", x.lord(-1, 1), -1);
        due("3: grain", x.of(0, 0), 9999);
        due("3: harvest", x.of(0, 1), 99);
        due("3: ruined", x.of(0, 2), 0);
        due("3: held", x.of(0, 6), 0);
        due("3: cost", x.of(0, 7), 0);
        due("3: what above", x.of(0, 8), -1);
        due("3: what below", x.of(0, -1), -1);
        due("3: no lord", x.of(6, 0), -1);
        due("3: lord below", x.of(-1, 0), -1);
        due("3: far lord", x.of(Integer.MAX_VALUE, 0), -1);
        due("3: far what", x.of(0, Integer.MIN_VALUE), -1);
        x.good(3, 5, 20);
        x.good(3, 5, 7);
        x.good(4, 5, 1);
        due("3: two held", x.of(3, 6), 2);
        due("3: both cost", x.of(3, 7), 27);
        Check.rule(x, "keeps 99 if to = 3");
        due("3: cost by law", x.of(3, 7), 198);
        due("3: none refused", x.count(9), 0);
    }

    private static void put() {
        GiftDuel x = hall();
        due("4: grain", x.put(1, 0, 9999), 100);
        due("4: grain again", x.put(1, 0, 0), 9999);
        due("4: harvest", x.put(1, 1, 99), 0);
        due("4: it stands", x.of(1, 1), 99);
        due("4: grain above", x.put(1, 0, 10000), -1);
        due("4: harvest above", x.put(1, 1, 100), -1);
        due("4: below", x.put(1, 1, -1), -1);
        due("4: what above", x.put(1, 2, 0), -1);
        due("4: what below", x.put(1, -1, 0), -1);
        due("4: no lord", x.put(3, 0, 0), -2);
        due("4: lord below", x.put(-1, 0, 0), -2);
        due("4: -1 ahead of -2", x.put(3, 0, 10000), -1);
        due("4: nothing was changed", x.of(1, 0), 0);
    }

    private static void goodAndAt() {
        GiftDuel x = hall();
        due("5: base above", x.good(0, 100, 0), -1);
        due("5: base below", x.good(0, -1, 0), -1);
        due("5: keep above", x.good(0, 0, 21), -1);
        due("5: keep below", x.good(0, 0, -1), -1);
        due("5: no lord", x.good(3, 0, 0), -2);
        due("5: lord below", x.good(-1, 0, 0), -2);
        due("5: -1 ahead of -2", x.good(9, 100, 0), -1);
        due("5: first", x.good(2, 99, 20), 0);
        due("6: holder", x.at(0, 0), 2);
        due("6: owner", x.at(0, 1), 2);
        due("6: base", x.at(0, 2), 99);
        due("6: keep", x.at(0, 3), 20);
        due("6: given", x.at(0, 4), 0);
        due("6: costs", x.at(0, 5), 20);
        due("6: what above", x.at(0, 6), -1);
        due("6: what below", x.at(0, -1), -1);
        due("6: no good", x.at(1, 0), -1);
        due("6: good below", x.at(-1, 0), -1);
        x.give(0, 1);
        x.give(0, 0);
        due("6: holder moved", x.at(0, 0), 0);
        due("6: owner stays", x.at(0, 1), 2);
        due("6: given twice", x.at(0, 4), 2);
        Check.rule(x, "keeps good + base + keep + given + giver + to + year + herald + mood");
        due("6: costs above 99", x.at(0, 5), 99);
        Check.rule(x, "keeps given + giver + to + year + herald + mood");
        x.terms(0, 7);
        x.terms(2, 9);
        due("6: words of keeping", x.at(0, 5), 2 - 1 + 0 + 7 - 1 + 9);
        Check.rule(x, "keeps 0 - 5");
        due("6: costs below 0", x.at(0, 5), 0);
        for (int i = 1; i < 16; i++) {
            due("5: next", x.good(0, 1, 1), i);
        }
        due("5: no room", x.good(0, 1, 1), -5);
        due("5: -2 ahead of -5", x.good(4, 1, 1), -2);
    }

    private static void terms() {
        GiftDuel x = new GiftDuel();
        due("7: year", x.terms(0, 999), 0);
        due("7: year again", x.terms(0, 0), 999);
        due("7: grace", x.terms(1, 3), 1);
        due("7: grace again", x.terms(1, 1), 3);
        due("7: mood", x.terms(2, 9), 0);
        due("7: mood again", x.terms(2, 0), 9);
        due("7: year above", x.terms(0, 1000), -1);
        due("7: year below", x.terms(0, -1), -1);
        due("7: grace above", x.terms(1, 4), -1);
        due("7: grace below", x.terms(1, 0), -1);
        due("7: mood above", x.terms(2, 10), -1);
        due("7: mood below", x.terms(2, -1), -1);
        due("7: what above", x.terms(3, 1), -1);
        due("7: what below", x.terms(-1, 1), -1);
    }

    private static void feedAndEnd() {
        GiftDuel x = hall();
        for (int i = 1; i <= 20; i++) {
            due("8: feed", x.feed(0, 0, 0, 0, 0), 20 * i);
        }
        due("8: full", x.feed(0, 0, 0, 0, 0), -1);
        due("8: it has all still", x.count(7), 400);
        due("9: too many", x.end(401), -1);
        due("9: below 0", x.end(-1), -1);
        due("9: all", x.end(400), 400);
        due("9: not 20 free", x.end(381), 381);
        due("8: no room for 20", x.feed(0, 0, 0, 0, 0), -1);
        due("9: 20 free", x.end(380), 380);
        due("8: room for 20", x.feed(0, 0, 0, 0, 0), 400);
        due("9: none", x.end(0), 0);
        due("9: gone", x.count(7), 0);
        due("9: of none", x.end(1), -1);
        due("8: neither is refused", x.count(8), 0);
        due("8: neither has a status", x.status(), 0);
        x.feed(0x02010300, 0x04050106, 0x07020809, 0x0163147F, 0xFFFFFFFF);
        x.end(15);
        due("8: highest first", x.row(), 5);
        due("8: bytes in order", x.at(0, 0) * 10000 + x.at(0, 2) * 100 + x.at(0, 3), 20103);
        due("8: bytes in order", x.at(3, 0) * 10000 + x.at(3, 2) * 100 + x.at(3, 3), 20809);
        due("8: bytes in order", x.at(4, 0) * 10000 + x.at(4, 2) * 100 + x.at(4, 3), 19920);
    }

    private static void rowAndDross() {
        GiftDuel x = hall();
        due("10: empty", x.row(), -6);
        Check.typeBytes(x, new byte[] {0, 1, 2, 3, 1, 2, 0, 100, 0, 0, 0, 21, 2, 99, 20, (byte) 255, 0, 0, 1});
        due("10: two came", x.row(), 2);
        due("11: five did not", x.dross(), 5);
        due("10: tape is empty", x.count(7), 0);
        due("10: second is of lord 2", x.at(1, 0), 2);
        due("10: its owner", x.at(1, 1), 2);
        due("10: empty again", x.row(), -6);
        due("11: dross stays", x.dross(), 5);
        Check.typeBytes(x, new byte[] {1});
        due("10: none comes", x.row(), 0);
        due("11: a part", x.dross(), 1);
        byte[] many = new byte[60];
        Check.typeBytes(x, many);
        due("10: fourteen come", x.row(), 14);
        due("11: no room for six", x.dross(), 6);
        Check.typeBytes(x, new byte[] {0, 1, 2});
        due("10: full", x.row(), 0);
        due("11: full", x.dross(), 1);
        GiftDuel y = new GiftDuel();
        Check.typeBytes(y, new byte[] {0, 1, 2});
        due("10: no lords", y.row(), 0);
        due("11: no lords", y.dross(), 1);
    }

    private static void law() {
        GiftDuel x = hall();
        x.good(0, 10, 2);
        due("12: empty", x.law(), -6);
        due("14: empty", x.fault(), 0);
        Check.type(x, "   ");
        due("12: blanks", x.law(), -6);
        due("14: blanks", x.fault(), 3);
        due("12: one", Check.law(x, "worth 5"), 0);
        due("14: none", x.fault(), -1);
        due("12: tape is empty", x.count(7), 0);
        due("12: bad", Check.law(x, "worth"), -6);
        due("12: tape is empty behind a bad one, too", x.count(7), 0);
        for (int i = 1; i < 6; i++) {
            due("12: next", Check.law(x, "worth " + i), i);
        }
        Check.law(x, "worth");
        due("12: -5 ahead of reading", x.status(), -5);
        due("12: tape is empty behind -5", x.count(7), 0);
        due("14: fault stays behind -5", x.fault(), -1);
        due("12: -5", Check.law(x, "worth 1"), -5);
        due("12: six", x.count(4), 6);
        due("12: not in force", x.asks(0, 1, 0), 10);
        x.force(3);
        due("12: in force", x.asks(0, 1, 0), 3);
    }

    private static void orders() {
        GiftDuel x = hall();
        x.good(0, 10, 2);
        x.good(1, 20, 2);
        due("13: empty", x.orders(), -6);
        due("14: empty", x.fault(), 0);
        due("13: two", Check.orders(x, "give 0 to 1; give 1 to 0"), 2);
        due("13: tape is empty", x.count(7), 0);
        due("13: it was so", x.debt(0, 1, 0), 20);
        due("13: they can be undone", x.count(6), 2);
        due("13: none run", Check.orders(x, "wait times 20 if 0 = 1"), 0);
        due("13: broken if", Check.orders(x, "wait if 1 / 0 = 1; wait"), 1);
        due("13: broken sum", Check.orders(x, "wait; wait; give 1 / 0 to 1"), -3);
        due("15: third", x.stopped(), 2);
        due("13: year is as it was", x.count(14), 1);
        due("13: so is what can be undone", x.count(6), 3);
        due("13: broken second sum", Check.orders(x, "give 0 to 1 / 0"), -3);
        due("13: no such good", Check.orders(x, "give 2 to 1"), -3);
        due("13: no such good below", Check.orders(x, "give 0 - 1 to 1"), -3);
        due("13: no such lord", Check.orders(x, "give 0 to 3"), -3);
        due("13: to its holder", Check.orders(x, "give 0 to holder 0"), -3);
        due("13: times", Check.orders(x, "wait times 20; give goods - 2 to [holder 0 + 1] % 3 times 3"), 23);
        due("13: year", x.count(14), 21);
        x.terms(0, 998);
        due("13: beyond 999", Check.orders(x, "wait times 2"), -3);
        due("13: back at 998", x.count(14), 998);
        due("15: first", x.stopped(), 0);
        due("13: to 999", Check.orders(x, "wait times 20 if year < 999"), 1);
        due("13: done", Check.orders(x, "give 0 to [holder 0 + 1] % 3 times 20 if done < 7"), 7);
        words();
    }

    private static void words() {
        GiftDuel x = hall();
        x.good(0, 10, 0);
        x.good(1, 20, 0);
        x.put(2, 0, 77);
        String yes = "; give 1 to 2 if ";
        due("13: last none", Check.orders(x, "wait if last = 0 - 1 and done = 0 and year = 0 and goods = 2"), 1);
        due("13: last", Check.orders(x, "give 0 to 1" + yes + "last = 10 and done = 1 and owed 1 = 1 and owed 0 = 0"), 2);
        due("13: grain", Check.orders(x, "wait if grain 2 = 77 and grain 0 = 100 and grain 5 = 0 - 1"), 1);
        due("13: holder", Check.orders(x, "wait if holder 0 = 1 and holder 1 = 2 and holder 15 = 0 - 1"), 1);
        due("13: no such owed", Check.orders(x, "wait if owed 3 = 0 - 1 and owed 1 = 0"), 1);
        due("13: year moves on", Check.orders(x, "wait times 9 if year < 7"), 3);
        due("13: if sees the gift ahead of it", Check.orders(x, "give 1 to 0; wait if holder 1 = 0 and last = 20"), 2);
    }

    private static void faultAndStopped() {
        GiftDuel x = hall();
        x.good(0, 10, 2);
        due("15: ahead of any", x.stopped(), -1);
        Check.orders(x, "wait; wait; give 0 to 0");
        due("15: third", x.stopped(), 2);
        due("14: it was read", x.fault(), -1);
        Check.orders(x, "wait; weit");
        due("15: none behind -6", x.stopped(), -1);
        due("14: place", x.fault(), 6);
        Check.law(x, "keeps 1");
        due("14: law without", x.fault(), -1);
        Check.orders(x, "give 0 to 0");
        due("15: first", x.stopped(), 0);
        Check.law(x, "bars bars");
        due("15: law leaves it", x.stopped(), 0);
        due("14: of law", x.fault(), 5);
        Check.orders(x, "wait");
        due("15: none behind what was done", x.stopped(), -1);
    }

    private static void force() {
        GiftDuel x = hall();
        x.good(0, 10, 2);
        due("16: none there", x.force(0), -2);
        due("16: none to none", x.force(-1), -1);
        due("16: that is no refusal", x.status(), 0);
        Check.law(x, "worth 1");
        Check.law(x, "worth 2");
        due("16: first", x.force(0), -1);
        due("16: second", x.force(1), 0);
        due("16: no third", x.force(2), -2);
        due("16: below", x.force(-2), -2);
        due("16: second stays", x.count(13), 1);
        due("16: it is so", x.asks(0, 1, 0), 2);
        due("16: none", x.force(-1), 1);
        due("16: base", x.asks(0, 1, 0), 10);
    }

    private static void asks() {
        GiftDuel x = hall();
        x.good(0, 10, 3);
        x.good(1, 20, 4);
        due("17: base without law", x.asks(0, 1, 0), 10);
        due("17: not barred", x.asks(0, 1, 1), 0);
        due("17: to its holder", x.asks(0, 0, 0), -1);
        due("17: no good", x.asks(2, 1, 0), -1);
        due("17: good below", x.asks(-1, 1, 0), -1);
        due("17: no lord", x.asks(0, 3, 0), -1);
        due("17: lord below", x.asks(0, -1, 0), -1);
        due("17: what above", x.asks(0, 1, 3), -1);
        due("17: what below", x.asks(0, 1, -1), -1);
        x.terms(0, 5);
        x.terms(2, 9);
        Check.rule(x, "worth [[[[[[good * 10 + giver] * 10 + to] * 10 + keep] * 10 + given] * 10 + year] * 10 + mood] % 1000");
        due("17: words", x.asks(1, 2, 0), 59);
        Check.rule(x, "worth [good * 10 + giver] * 10 + to");
        due("17: words", x.asks(1, 2, 0), 112);
        Check.rule(x, "worth herald + 2; worth 5 if herald > 0 - 1");
        due("17: no herald", x.asks(1, 2, 0), 1);
        Check.rule(x, "worth 1000; worth 1000 / 0; bars if giver = 1 and to = 0");
        due("17: 999 at most", x.asks(1, 2, 0), 999);
        due("17: barred", x.asks(1, 0, 1), 1);
        due("17: other one", x.asks(1, 2, 1), 0);
        x.give(1, 2);
        due("17: second hand", x.asks(1, 0, 2), 1);
        due("17: first hand", x.asks(0, 1, 2), 0);
        Check.rule(x, "worth 0 - 1000; bars");
        due("17: 0 at least", x.asks(1, 1, 0), 0);
        due("17: all barred", x.asks(1, 1, 1), 1);
    }

    private static void give() {
        GiftDuel x = hall();
        x.good(0, 10, 3);
        due("18: no good", x.give(1, 1), -2);
        due("18: good below", x.give(-1, 1), -2);
        due("18: no lord", x.give(0, 3), -2);
        due("18: lord below", x.give(0, -1), -2);
        due("18: to its holder", x.give(0, 0), -3);
        Check.rule(x, "bars if to = 2; worth 50 + given");
        due("18: barred", x.give(0, 2), -3);
        due("18: worth ahead of given", x.give(0, 1), 50);
        due("18: given", x.at(0, 4), 1);
        due("18: holder", x.at(0, 0), 1);
        due("18: second hand", x.give(0, 0), 51);
        due("18: a foul", x.of(1, 3), 1);
        due("18: of nobody else", x.of(0, 3), 0);
        due("18: it challenges nobody", x.owed(0, 0), 0);
        due("18: back with its owner it is first hand", x.give(0, 1), 52);
        due("18: no foul", x.of(0, 3), 0);
        GiftDuel y = hall();
        y.good(0, 10, 3);
        y.good(1, 10, 3);
        y.put(1, 0, 0);
        y.await();
        due("18: ruined", y.of(1, 2), 1);
        due("18: to a ruined one", y.give(0, 1), -3);
        due("18: of a ruined one", y.give(1, 0), -3);
        due("18: in orders, too", Check.orders(y, "give 1 to 0"), -3);
    }

    private static void challenges() {
        GiftDuel x = hall();
        x.good(0, 10, 0);
        x.good(0, 30, 0);
        x.good(1, 10, 0);
        x.good(1, 31, 0);
        x.good(0, 20, 0);
        x.terms(1, 3);
        x.give(0, 1);
        due("III: stands", x.debt(1, 0, 0), 10);
        x.await();
        x.give(1, 1);
        due("III: greater", x.debt(1, 0, 0), 30);
        due("III: its year stays", x.debt(1, 0, 1), 0);
        x.give(4, 1);
        due("III: less does not lower it", x.debt(1, 0, 0), 30);
        x.give(2, 0);
        due("III: no more does nothing", x.debt(1, 0, 0), 30);
        due("III: no more does nothing", x.debt(0, 1, 0), -1);
        x.give(3, 0);
        due("III: more answers", x.debt(1, 0, 0), -1);
        due("III: and challenges", x.debt(0, 1, 0), 31);
        due("III: from this year on", x.debt(0, 1, 1), 1);
        GiftDuel y = hall();
        y.good(0, 0, 0);
        y.good(1, 0, 0);
        due("III: worth 0", y.give(0, 1), 0);
        due("III: stands, too", y.debt(1, 0, 0), 0);
        due("III: of no more worth", y.give(1, 0), 0);
        due("III: stands still", y.count(5), 1);
        due("III: most worth is 0", y.owed(1, 1), 0);
    }

    private static void await() {
        GiftDuel x = hall();
        x.put(0, 1, 50);
        x.put(0, 0, 9990);
        x.good(0, 1, 20);
        x.good(1, 1, 20);
        x.put(1, 0, 20);
        due("19: none", x.await(), 0);
        due("19: 9,999 at most, then costs", x.of(0, 0), 9979);
        due("19: just paid", x.of(1, 0), 0);
        due("19: not ruined", x.of(1, 2), 0);
        due("19: one", x.await(), 1);
        due("19: ruined", x.of(1, 2), 1);
        due("19: year", x.count(14), 2);
        x.terms(0, 999);
        due("19: 999", x.await(), -3);
        due("19: still", x.count(14), 999);
        x.terms(0, 998);
        due("19: to 999", x.await(), 0);
        GiftDuel y = hall();
        y.good(0, 1, 0);
        Check.rule(y, "keeps year * 10");
        y.await();
        due("19: costs in the new year", y.of(0, 0), 90);
        graces();
    }

    private static void graces() {
        for (int grace = 1; grace <= 3; grace++) {
            GiftDuel x = hall();
            x.good(0, 10, 0);
            x.terms(1, grace);
            x.terms(0, 7);
            x.give(0, 2);
            for (int i = 1; i < grace; i++) {
                x.await();
                due("19: stands in grace", x.debt(2, 0, 1), 7);
                due("19: not lost in grace", x.of(2, 4), 0);
            }
            x.await();
            due("19: stands no more", x.debt(2, 0, 0), -1);
            due("19: lost", x.of(2, 4), 1);
            due("19: won", x.of(0, 5), 1);
            due("19: not won", x.of(2, 5), 0);
            due("19: not lost", x.of(0, 4), 0);
        }
    }

    private static void ruinedLords() {
        GiftDuel x = hall();
        x.good(0, 10, 0);
        x.good(1, 10, 20);
        x.good(2, 10, 0);
        x.put(1, 0, 0);
        x.put(1, 1, 5);
        x.terms(1, 1);
        x.give(0, 1);
        x.give(1, 2);
        x.give(2, 0);
        due("19: challenges", x.count(5), 3);
        x.undo();
        x.undo();
        x.give(2, 1);
        due("19: challenges", x.owed(1, 0), 2);
        due("19: one falls", x.await(), 1);
        due("19: has no grain", x.of(1, 0), 0);
        due("19: nobody lost by it", x.of(1, 4), 0);
        due("19: nobody won by it", x.of(0, 5) + x.of(2, 5), 0);
        due("19: none stands", x.count(5), 0);
        due("19: ruined once", x.await(), 0);
        due("19: ruined still", x.of(1, 2), 1);
    }

    private static void undo() {
        GiftDuel x = hall();
        x.good(0, 10, 1);
        due("20: none", x.undo(), -3);
        x.give(0, 1);
        x.await();
        due("20: two", x.count(6), 2);
        due("20: a year", x.undo(), 1);
        due("20: year", x.count(14), 0);
        due("20: grain", x.of(1, 0), 100);
        due("20: a gift", x.undo(), 0);
        due("20: given", x.at(0, 4), 0);
        due("20: holder", x.at(0, 0), 0);
        due("20: no challenge", x.count(5), 0);
        due("20: none left", x.undo(), -3);
        for (int i = 0; i < 20; i++) {
            x.await();
        }
        due("20: 16 are kept", x.count(6), 16);
        for (int i = 0; i < 16; i++) {
            due("20: one of 16", x.undo(), 1);
        }
        due("20: no more", x.undo(), -3);
        due("20: four stay", x.count(14), 4);
        Check.orders(x, "wait; give 0 to 1");
        due("20: by orders", x.undo(), 0);
        due("20: by orders", x.undo(), 1);
        undoEnds();
        undoBehindStopped();
    }

    /** ORDERS that can't be leave what can be undone as it was, even if they ran more than are kept. */
    private static void undoBehindStopped() {
        GiftDuel x = hall();
        x.good(0, 10, 1);
        for (int i = 0; i < 8; i++) {
            x.await();
            x.give(0, (i + 1) % 3);
        }
        int grain = x.of(0, 0);
        due("20: stopped", Check.orders(x, "wait times 20; wait times 9; give 0 to 9"), -3);
        due("20: sixteen still", x.count(6), 16);
        due("20: grain still", x.of(0, 0), grain);
        for (int i = 7; i >= 0; i--) {
            due("20: gift behind stopped", x.undo(), 0);
            due("20: holder then", x.at(0, 0), i % 3);
            due("20: year then", x.count(14), i + 1);
            due("20: year behind stopped", x.undo(), 1);
            due("20: year then", x.count(14), i);
        }
        due("20: all", x.undo(), -3);
    }

    private static void undoEnds() {
        for (int which = 0; which < 16; which++) {
            GiftDuel x = hall();
            x.good(0, 10, 1);
            x.image(0);
            x.await();
            int kept = 1;
            switch (which) {
                case 0: x.lord(1, 1); kept = 0; break;
                case 1: x.put(0, 0, 5); kept = 0; break;
                case 2: x.good(0, 1, 1); kept = 0; break;
                case 3: Check.type(x, "a"); x.row(); kept = 0; break;
                case 4: x.terms(2, 1); kept = 0; break;
                case 5: x.back(0); kept = 0; break;
                case 6: x.lord(-1, 1); break;
                case 7: x.put(0, 0, -5); break;
                case 8: x.good(7, 1, 1); break;
                case 9: x.row(); break;
                case 10: x.terms(2, 10); break;
                case 11: x.herald(1); x.road(0, 1, 1, 1); x.shelf(0, 1); break;
                case 12: Check.rule(x, "worth 1"); break;
                case 13: x.generation(1, 5); break;
                case 14: x.image(1); break;
                default: x.back(1); break;
            }
            due("20: kept behind " + which, x.count(6), kept);
            due("20: undone behind " + which, x.undo(), kept == 1 ? 1 : -3);
            if (which == 11) {
                due("20: heralds stay", x.count(2), 1);
                due("20: shelves stay", x.shelf(0, -1), 1);
            }
            if (which == 12) {
                due("20: force stays", x.count(13), 0);
            }
        }
    }

    private static void debtAndOwed() {
        GiftDuel x = hall();
        x.lord(5, 5);
        x.good(1, 10, 1);
        x.good(2, 30, 1);
        x.good(3, 30, 1);
        x.terms(0, 4);
        due("22: none stand", x.owed(0, 0), 0);
        due("22: whose", x.owed(0, 1), -1);
        x.give(0, 0);
        due("22: one", x.owed(0, 1), 1);
        x.give(2, 0);
        due("22: of more worth", x.owed(0, 1), 3);
        x.give(1, 0);
        due("22: lowest of alike", x.owed(0, 1), 2);
        due("22: three", x.owed(0, 0), 3);
        due("21: worth", x.debt(0, 2, 0), 30);
        due("21: year", x.debt(0, 2, 1), 4);
        due("21: what above", x.debt(0, 2, 2), -1);
        due("21: what below", x.debt(0, 2, -1), -1);
        due("21: none", x.debt(2, 0, 0), -1);
        due("21: none of the year", x.debt(2, 0, 1), -1);
        due("21: itself", x.debt(0, 0, 0), -1);
        due("21: no lord", x.debt(4, 0, 0), -1);
        due("21: lord below", x.debt(-1, 0, 0), -1);
        due("21: no other", x.debt(0, 4, 0), -1);
        due("21: other below", x.debt(0, -1, 0), -1);
        due("22: no lord", x.owed(4, 0), -1);
        due("22: below", x.owed(-1, 0), -1);
        due("22: what above", x.owed(0, 2), -1);
        due("22: what below", x.owed(0, -1), -1);
    }

    private static void duel() {
        GiftDuel x = hall();
        due("23: same", x.duel(0, 0, 0), -1);
        due("23: no lord", x.duel(0, 3, 0), -1);
        due("23: below", x.duel(-1, 0, 0), -1);
        due("23: nothing to give", x.duel(0, 1, 0), 1);
        due("23: by none", x.duel(0, 1, 1), 0);
        due("23: none", x.duel(0, 1, 2), -1);
        due("23: no gifts", x.duel(0, 1, 3), 0);
        x.good(0, 10, 0);
        x.good(1, 20, 0);
        x.good(0, 30, 0);
        due("23: first", x.duel(0, 1, 0), 0);
        due("23: by both", x.duel(0, 1, 1), 2);
        due("23: lowest", x.duel(0, 1, 2), 0);
        due("23: three gifts", x.duel(0, 1, 3), 3);
        due("23: other begins", x.duel(1, 0, 0), 0);
        due("23: lost by all", x.duel(1, 0, 1), 0);
        due("23: two gifts", x.duel(1, 0, 3), 2);
        due("23: what above", x.duel(0, 1, 4), -1);
        due("23: what below", x.duel(0, 1, -1), -1);
        Check.rule(x, "bars if good = 2 and to = 1; bars if good = 0 and to = 2");
        due("23: barred aside", x.duel(0, 1, 0), 1);
        due("23: barred to another", x.duel(0, 2, 2), 2);
        x.force(-1);
        x.give(2, 2);
        due("23: held alone", x.duel(0, 1, 0), 1);
        due("23: owned alone", x.duel(2, 1, 3), 0);
        GiftDuel y = hall();
        for (int i = 0; i < 7; i++) {
            y.good(0, 1 + i, 0);
        }
        y.good(1, 6, 0);
        due("23: six at most", y.duel(0, 1, 1), 1);
        due("23: the sixth", y.duel(0, 1, 2), 5);
        Check.rule(y, "bars if good = 0");
        due("23: barred ones count among the six", y.duel(0, 1, 1), 1);
        due("23: the seventh is not let in", y.duel(0, 1, 2), 5);
    }

    private static void duelGrain() {
        GiftDuel x = hall();
        x.put(0, 0, 5);
        x.put(1, 0, 9);
        x.good(0, 10, 10);
        x.good(0, 9, 9);
        x.good(1, 50, 5);
        x.good(1, 60, 6);
        due("23: who can't pay has lost", x.duel(0, 1, 0), 0);
        due("23: by the dear one alone", x.duel(0, 1, 1), 1);
        due("23: that one", x.duel(0, 1, 2), 0);
        due("23: its gift is one", x.duel(0, 1, 3), 1);
        due("23: other begins", x.duel(1, 0, 0), 1);
        due("23: by both", x.duel(1, 0, 1), 2);
        due("23: the lowest", x.duel(1, 0, 2), 2);
        Check.rule(x, "keeps 0 if to = 1");
        due("23: costs of who is given", x.duel(0, 1, 0), 1);
        x.force(-1);
        x.put(1, 0, 0);
        x.await();
        due("23: ruined does not matter", x.duel(0, 1, 0), 0);
    }

    private static void ruin() {
        GiftDuel x = hall();
        x.good(0, 1, 20);
        x.good(1, 1, 10);
        x.put(1, 1, 10);
        due("24: hundred by twenty", x.ruin(0, 99), 6);
        due("24: just then", x.ruin(0, 6), 6);
        due("24: not by then", x.ruin(0, 5), -1);
        due("24: never", x.ruin(1, 99), -1);
        due("24: n above", x.ruin(0, 100), -1);
        due("24: n below", x.ruin(0, 0), -1);
        due("24: no lord", x.ruin(3, 9), -1);
        due("24: below", x.ruin(-1, 9), -1);
        x.terms(0, 999);
        due("24: beyond 999", x.ruin(0, 99), 1005);
        x.put(0, 0, 9999);
        x.put(0, 1, 99);
        Check.rule(x, "keeps 99");
        x.terms(0, 0);
        due("24: harvest comes first, 9,999 at most", x.ruin(0, 99), -1);
        Check.rule(x, "keeps 99 if year > 1000; keeps 0 if year < 1000 + 1");
        x.terms(0, 990);
        x.put(0, 0, 0);
        x.put(0, 1, 0);
        due("24: laws in years beyond 999", x.ruin(0, 99), 1001);
        x.force(-1);
        x.terms(0, 5);
        x.put(0, 0, 0);
        x.put(0, 1, 0);
        x.await();
        due("24: is so now", x.ruin(0, 99), -1);
        due("24: nothing was changed", x.of(1, 0), 100);
    }

    private static void siege() {
        GiftDuel x = hall();
        x.good(0, 50, 10);
        x.good(0, 40, 10);
        x.good(0, 40, 10);
        x.good(0, 90, 20);
        x.put(1, 0, 20);
        due("25: one in three years", x.siege(0, 1, 3, 0), 1);
        due("25: of least worth", x.siege(0, 1, 3, 1), 40);
        due("25: the lowest", x.siege(0, 1, 3, 2), 2);
        due("25: two years", x.siege(0, 1, 2, 2), 8);
        due("25: one year", x.siege(0, 1, 1, 0), 2);
        due("25: least together", x.siege(0, 1, 1, 1), 130);
        due("25: lowest together", x.siege(0, 1, 1, 2), 10);
        x.put(1, 0, 50);
        due("25: can't be", x.siege(0, 1, 1, 0), -1);
        due("25: can't be", x.siege(0, 1, 1, 1), -1);
        due("25: can't be", x.siege(0, 1, 1, 2), -1);
        due("25: n above", x.siege(0, 1, 10, 0), -1);
        due("25: n below", x.siege(0, 1, 0, 0), -1);
        due("25: same", x.siege(0, 0, 9, 0), -1);
        due("25: no lord", x.siege(0, 3, 9, 0), -1);
        due("25: no lord", x.siege(-1, 1, 9, 0), -1);
        due("25: what above", x.siege(0, 1, 9, 3), -1);
        due("25: what below", x.siege(0, 1, 9, -1), -1);
        x.good(1, 1, 20);
        due("25: without any", x.siege(0, 1, 9, 0), 0);
        due("25: without any", x.siege(0, 1, 9, 1), 0);
        due("25: without any", x.siege(0, 1, 9, 2), 0);
        Check.rule(x, "keeps 0 if good = 4; bars if good = 3; keeps 30 if good = 0 and to = 1");
        due("25: barred aside, costs of the other", x.siege(0, 1, 2, 2), 1);
        x.terms(0, 999);
        due("25: beyond 999", x.siege(0, 1, 2, 2), 1);
        x.put(2, 0, 0);
        x.force(-1);
        x.terms(0, 0);
        x.good(2, 1, 1);
        x.await();
        due("25: ruined giver", x.siege(2, 1, 9, 0), -1);
        due("25: ruined other", x.siege(0, 2, 9, 0), -1);
        siegeOfMany();
        siegeByYears();
    }

    /** Each YEAR has costs of its own, and they are those of the one who is given. */
    private static void siegeByYears() {
        GiftDuel x = hall();
        x.good(0, 10, 0);
        x.good(0, 20, 0);
        x.put(1, 0, 30);
        x.terms(0, 4);
        Check.rule(x, "keeps 0; keeps 31 if year = 5 and good = 1 and to = 1; keeps 31 if year = 7 and good = 0 and to = 1");
        due("25: this year's next", x.siege(0, 1, 1, 2), 2);
        due("25: in two", x.siege(0, 1, 2, 2), 2);
        due("25: in three", x.siege(0, 1, 3, 2), 1);
        Check.rule(x, "keeps 31 if year = 4 and to = 1");
        due("25: not this year", x.siege(0, 1, 9, 0), -1);
        Check.rule(x, "keeps 31 if to = 0");
        due("25: not what it costs the giver", x.siege(0, 1, 9, 0), -1);
    }

    private static void siegeOfMany() {
        GiftDuel x = hall();
        x.good(1, 9, 9);
        for (int i = 0; i < 12; i++) {
            x.good(0, i < 10 ? 50 : 1, i < 10 ? 1 : 20);
        }
        x.put(1, 0, 18);
        due("25: ten at most", x.siege(0, 1, 1, 0), 10);
        due("25: bits of goods", x.siege(0, 1, 1, 2), 1023 << 1);
        x.give(1, 2);
        due("25: the eleventh then", x.siege(0, 1, 1, 2), 1 << 11);
        x.put(1, 0, 9999);
        due("25: not by so much", x.siege(0, 1, 9, 0), -1);
    }

    private static void heraldAndTells() {
        GiftDuel x = hall();
        x.good(0, 10, 2);
        due("27: without heralds", x.tells(-1, 0), -1);
        due("27: without heralds", x.tells(0, 0), -1);
        due("26: below", x.herald(0), -1);
        due("26: above", x.herald(10), -1);
        due("26: first", x.herald(1), 0);
        due("26: second", x.herald(9), 1);
        Check.rule(x, "worth 100 - herald * 10 if herald > 0 - 1; worth 7 if herald = 2");
        due("27: first", x.tells(0, 0), 100);
        due("27: second", x.tells(1, 0), 90);
        due("27: of two the lower", x.tells(-1, 0), 90);
        x.herald(3);
        due("27: of three the middle", x.tells(-1, 0), 90);
        x.herald(3);
        due("27: of four the lower middle", x.tells(-1, 0), 70);
        x.herald(3);
        due("27: of five the middle", x.tells(-1, 0), 70);
        due("26: no room", x.herald(5), -5);
        due("26: -1 ahead of -5", x.herald(10), -1);
        due("27: no herald", x.tells(5, 0), -1);
        due("27: herald below", x.tells(-2, 0), -1);
        due("27: no good", x.tells(0, 1), -1);
        due("27: good below", x.tells(0, -1), -1);
        Check.rule(x, "worth [giver + 3] * 100 + [to + 3] * 10 + herald");
        due("27: giver, to are not named", x.tells(4, 0), 224);
        Check.rule(x, "worth 1000 if herald = 0; worth 0 - 5 if herald = 1");
        due("27: 999 at most", x.tells(0, 0), 999);
        due("27: 0 at least", x.tells(1, 0), 0);
        due("27: base without", x.tells(2, 0), 10);
    }

    private static void bribe() {
        GiftDuel x = hall();
        x.good(0, 10, 2);
        x.good(0, 12, 2);
        x.good(0, 99, 2);
        due("28: without heralds", x.bribe(0, 1, 0), -1);
        x.herald(5);
        due("28: one herald", x.bribe(0, 1, 0), 15);
        due("28: that one", x.bribe(0, 1, 1), 1);
        due("28: worth more already", x.bribe(2, 1, 0), 0);
        due("28: none bribed", x.bribe(2, 1, 1), 0);
        due("28: same", x.bribe(0, 0, 0), -1);
        due("28: no good", x.bribe(3, 0, 0), -1);
        due("28: no good", x.bribe(0, 3, 0), -1);
        due("28: below", x.bribe(-1, 0, 0), -1);
        due("28: below", x.bribe(0, -1, 0), -1);
        due("28: what above", x.bribe(0, 1, 2), -1);
        due("28: what below", x.bribe(0, 1, -1), -1);
        x.herald(2);
        due("28: both of two", x.bribe(0, 1, 0), 21);
        due("28: both of two", x.bribe(0, 1, 1), 3);
        x.herald(5);
        due("28: two of three", x.bribe(0, 1, 0), 21);
        due("28: lowest as bits", x.bribe(0, 1, 1), 3);
        Check.rule(x, "worth 11 if good = 0 and herald = 2");
        due("28: whose shortfall is less", x.bribe(0, 1, 0), 16);
        due("28: those", x.bribe(0, 1, 1), 6);
        Check.rule(x, "worth 999 if good = 1");
        due("28: above 999 can't be told", x.bribe(0, 1, 0), -1);
        due("28: above 999 can't be told", x.bribe(0, 1, 1), -1);
        due("28: more than 99 already", x.bribe(1, 2, 0), 0);
        Check.rule(x, "worth 998 if good = 1; worth 998 if good = 2");
        due("28: up to 999", x.bribe(0, 1, 0), 989 * 7);
        due("28: alike are not more", x.bribe(1, 2, 0), 7);
    }

    private static void road() {
        GiftDuel x = hall();
        due("29: first", x.road(0, 1, 1, 0), 0);
        due("29: same pair", x.road(1, 0, 30, 10), 1);
        due("29: days below", x.road(0, 1, 0, 0), -1);
        due("29: days above", x.road(0, 1, 31, 0), -1);
        due("29: thieves below", x.road(0, 1, 1, -1), -1);
        due("29: thieves above", x.road(0, 1, 1, 11), -1);
        due("29: same lord", x.road(2, 2, 1, 1), -1);
        due("29: no lord", x.road(0, 3, 1, 1), -2);
        due("29: below", x.road(-1, 0, 1, 1), -2);
        due("29: -1 ahead of -2", x.road(3, 3, 1, 1), -1);
        for (int i = 2; i < 12; i++) {
            due("29: next", x.road(1, 2, 5, 5), i);
        }
        due("29: no room", x.road(1, 2, 5, 5), -5);
        due("29: -2 ahead of -5", x.road(1, 3, 5, 5), -2);
    }

    private static void way() {
        GiftDuel x = new GiftDuel();
        for (int i = 0; i < 6; i++) {
            x.lord(0, 0);
        }
        due("30: no road", x.way(0, 1, 0), -1);
        due("30: no lord", x.way(0, 6, 0), -1);
        due("30: below", x.way(-1, 0, 0), -1);
        due("30: itself", x.way(3, 3, 0), 100000);
        due("30: itself", x.way(3, 3, 1), 0);
        due("30: itself", x.way(3, 3, 2), 0);
        due("30: itself", x.way(3, 3, 3), 3);
        due("30: itself", x.way(3, 3, 4), -1);
        x.road(0, 1, 3, 10);
        due("30: of 0", x.way(0, 1, 0), -1);
        due("30: of 0", x.way(0, 1, 1), -1);
        x.road(1, 0, 9, 9);
        due("30: one of ten", x.way(0, 1, 0), 10000);
        x.road(0, 1, 7, 9);
        due("30: fewest days", x.way(0, 1, 1), 7);
        for (int i = 1; i < 5; i++) {
            x.road(i + 1, i, 2, 1);
        }
        x.road(0, 5, 30, 1);
        due("30: five roads", x.way(0, 1, 0), 59049);
        due("30: five roads", x.way(0, 1, 2), 5);
        due("30: days", x.way(0, 1, 1), 38);
        for (int i = 0; i < 6; i++) {
            due("30: row", x.way(0, 1, 3 + i), i == 0 ? 0 : 6 - i);
        }
        due("30: behind it", x.way(0, 1, 9), -1);
        due("30: what below", x.way(0, 1, -1), -1);
        due("30: what far", x.way(0, 1, Integer.MAX_VALUE), -1);
        waysAlike();
    }

    private static void waysAlike() {
        GiftDuel x = new GiftDuel();
        for (int i = 0; i < 4; i++) {
            x.lord(0, 0);
        }
        x.road(0, 2, 1, 0);
        x.road(2, 3, 3, 0);
        x.road(0, 1, 2, 0);
        x.road(1, 3, 2, 0);
        due("30: first as a row", x.way(0, 3, 4), 1);
        x.road(0, 3, 4, 0);
        due("30: longer row may be first", x.way(0, 3, 2), 2);
        x.road(2, 0, 1, 0);
        x.road(3, 2, 2, 0);
        due("30: fewest days", x.way(0, 3, 4), 2);
        due("30: fewest days", x.way(0, 3, 1), 3);
    }

    private static void ring() {
        GiftDuel x = new GiftDuel();
        for (int i = 0; i < 6; i++) {
            x.lord(0, 0);
            x.good(i, 10, 0);
            x.good(i, 10, 0);
        }
        due("31: none", x.ring(-1), -1);
        due("31: none", x.ring(0), -1);
        x.give(0, 1);
        x.give(2, 2);
        x.give(4, 3);
        x.give(6, 4);
        due("31: not closed", x.ring(-1), -1);
        x.give(8, 0);
        due("31: five", x.ring(-1), 5);
        due("31: lowest first", x.ring(0), 0);
        due("31: against 0 from 4", x.ring(1), 4);
        due("31: against 4 from 3", x.ring(2), 3);
        due("31: the last from the first", x.ring(4), 1);
        due("31: behind it", x.ring(5), -1);
        due("31: far", x.ring(Integer.MAX_VALUE), -1);
        due("31: below", x.ring(-2), -1);
        x.give(7, 1);
        due("31: fewest", x.ring(-1), 3);
        due("31: against 1 from 3", x.ring(1), 3);
        due("31: begun with the lowest", x.ring(0), 1);
        x.give(5, 0);
        due("31: lowest as bits", x.ring(0), 0);
        due("31: against 0 from 2", x.ring(1), 2);
        due("31: against 2 from 1", x.ring(2), 1);
        x.await();
        due("31: none stands", x.ring(-1), -1);
        for (int lords = 3; lords <= 6; lords++) {
            GiftDuel y = new GiftDuel();
            for (int i = 0; i < lords; i++) {
                y.lord(0, 0);
                y.good(i, 1, 0);
            }
            for (int i = 0; i < lords; i++) {
                due("31: not yet", y.ring(-1), -1);
                y.give(i, (i + 1) % lords);
            }
            due("31: all", y.ring(-1), lords);
            for (int i = 0; i < lords; i++) {
                due("31: back round", y.ring(i), (lords - i) % lords);
            }
            due("31: behind all", y.ring(lords), -1);
        }
        ringByChallenges();
    }

    /** The row goes by challenges, not by numbers. */
    private static void ringByChallenges() {
        GiftDuel x = new GiftDuel();
        for (int i = 0; i < 4; i++) {
            x.lord(0, 0);
            x.good(i, 1, 0);
            x.good(i, 1, 0);
        }
        int[][] against = {{0, 2}, {2, 1}, {1, 3}, {3, 0}};
        for (int[] pair : against) {
            x.give(2 * pair[1], pair[0]);
        }
        due("31: four", x.ring(-1), 4);
        due("31: its row", x.ring(0) * 1000 + x.ring(1) * 100 + x.ring(2) * 10 + x.ring(3), 213);
    }

    private static void shelf() {
        GiftDuel x = hall();
        x.good(0, 1, 1);
        due("32: first", x.shelf(0, 2), -1);
        due("32: that is no refusal", x.status(), 0);
        due("32: again", x.shelf(0, -1), 2);
        due("32: anyone", x.shelf(0, 0), -1);
        due("32: no good", x.shelf(1, 0), -2);
        due("32: good below", x.shelf(-1, 0), -2);
        due("32: no lord", x.shelf(0, 3), -2);
        due("32: lord below", x.shelf(0, -2), -1);
        due("32: -1 ahead of -2", x.shelf(1, -2), -1);
        due("32: it stays", x.shelf(0, 1), 0);
    }

    private static void found() {
        GiftDuel x = hall();
        x.good(0, 1, 1);
        x.good(1, 1, 1);
        due("33: as it is", x.found(0, 0), 1);
        due("33: any one gift", x.found(1, 0), 4);
        due("33: any two", x.found(2, 0), 16);
        due("33: any three", x.found(3, 0), 64);
        due("33: the first", x.found(1, 1), 0);
        due("33: to whom", x.found(1, 2), 1);
        x.shelf(0, 0);
        x.shelf(1, 0);
        due("33: not as it is", x.found(0, 0), 0);
        due("33: one", x.found(1, 0), 1);
        due("33: one", x.found(1, 1), 1);
        due("33: two", x.found(2, 0), 1);
        due("33: first of two", x.found(2, 1) * 1000 + x.found(2, 2) * 100 + x.found(2, 3) * 10 + x.found(2, 4), 1210);
        due("33: three", x.found(3, 0), 3 * 2 + 3);
        due("33: first of three", x.found(3, 1) * 10 + x.found(3, 2), 1);
        due("33: second of three", x.found(3, 3) * 10 + x.found(3, 4), 0);
        due("33: third of three", x.found(3, 5) * 10 + x.found(3, 6), 10);
        due("33: what above", x.found(2, 5), -1);
        due("33: what above", x.found(0, 1), -1);
        due("33: what below", x.found(2, -1), -1);
        due("33: n above", x.found(4, 0), -1);
        due("33: n below", x.found(-1, 0), -1);
        Check.rule(x, "bars if good = 1 and to = 0 and giver = 1; bars if given > 0");
        due("33: barred", x.found(1, 0), 0);
        due("33: none", x.found(1, 1), -1);
        due("33: by the third", x.found(2, 0), 1);
        due("33: given as it is now", x.found(2, 2), 2);
        x.force(-1);
        x.put(2, 0, 0);
        x.good(2, 0, 1);
        x.await();
        due("33: not by a ruined one", x.found(2, 0), 0);
    }

    private static void beats() {
        GiftDuel x = hall();
        x.good(0, 10, 1);
        x.good(0, 20, 1);
        x.good(0, 30, 1);
        x.good(1, 20, 1);
        due("34: one", x.beats(0, 1, -1), 1);
        due("34: that", x.beats(0, 1, 0), 2);
        due("34: no more", x.beats(0, 1, 1), -1);
        due("34: none", x.beats(1, 0, -1), 0);
        due("34: none", x.beats(1, 0, 0), -1);
        due("34: who holds nothing", x.beats(0, 2, -1), 3);
        due("34: second", x.beats(0, 2, 1), 1);
        due("34: nothing to beat by", x.beats(2, 0, -1), 0);
        due("34: same", x.beats(0, 0, -1), -1);
        due("34: no lord", x.beats(0, 3, -1), -1);
        due("34: below", x.beats(-1, 0, -1), -1);
        due("34: i below", x.beats(0, 1, -2), -1);
        Check.rule(x, "worth 5 if giver = 1 and to = 0");
        due("34: as gifts to one another", x.beats(0, 1, -1), 3);
        x.force(-1);
        x.give(3, 2);
        due("34: held, not owned", x.beats(2, 1, -1), 1);
    }

    private static void generation() {
        GiftDuel x = new GiftDuel();
        due("35: no lords", x.generation(0, 1), -3);
        due("35: seed below", x.generation(-1, 1), -1);
        due("35: seed above", x.generation(1000001, 1), -1);
        due("35: n below", x.generation(0, 0), -1);
        due("35: n above", x.generation(0, 51), -1);
        x.lord(100, 10);
        due("35: no goods", x.generation(1000000, 50), 0);
        long s = 1000000;
        int grain = 100;
        for (int i = 0; i < 50; i++) {
            s = (s * 1103 + 12345) % 1000003;
            grain += s % 3 == 0 ? 0 : 10;
        }
        due("35: harvests", x.drawn(0, 0), grain);
        due("35: on paper", x.of(0, 0), 100);
        due("35: year", x.count(14), 0);
        x.lord(200, 3);
        x.good(0, 10, 1);
        x.good(1, 20, 1);
        s = 77;
        s = (s * 1103 + 12345) % 1000003;
        int good = (int) (s % 2);
        s = (s * 1103 + 12345) % 1000003;
        int to = (int) (s % 2);
        due("35: a gift if it can be", x.generation(77, 1), good == to ? 0 : 1);
        due("35: held by both", x.drawn(0, 6) + x.drawn(1, 6), 2);
        x.terms(0, 998);
        x.generation(3, 50);
        int left = x.drawn(0, 0);
        x.generation(3, 1);
        due("35: it ends beyond 999", left, x.drawn(0, 0));
        due("35: nothing can be undone by it", x.count(6), 0);
    }

    private static void drawn() {
        GiftDuel x = new GiftDuel();
        due("36: ahead of any", x.drawn(0, 0), -1);
        x.lord(100, 0);
        due("36: ahead of any", x.drawn(0, 0), -1);
        x.good(0, 5, 5);
        x.generation(0, 50);
        x.lord(3, 3);
        due("36: no such lord then", x.drawn(1, 0), -1);
        due("36: below", x.drawn(-1, 0), -1);
        due("36: what above", x.drawn(0, 7), -1);
        due("36: what below", x.drawn(0, -1), -1);
        due("36: harvest", x.drawn(0, 1), 0);
        due("36: ruined", x.drawn(0, 2), 1);
        due("36: grain", x.drawn(0, 0), 0);
        due("36: fouls, lost, won", x.drawn(0, 3) + x.drawn(0, 4) + x.drawn(0, 5), 0);
        due("36: held", x.drawn(0, 6), 1);
        x.image(0);
        due("36: a refused one", x.generation(0, 51), -1);
        due("36: leaves it", x.drawn(0, 2), 1);
        x.generation(0, 1);
        x.lord(4, 4);
        x.back(0);
        due("36: images do not keep it", x.drawn(1, 1), 3);
        due("36: nor does another lord come into it", x.drawn(2, 1), -1);
    }

    private static void images() {
        GiftDuel x = hall();
        x.good(0, 10, 1);
        x.herald(3);
        x.road(0, 1, 1, 1);
        x.shelf(0, 2);
        Check.rule(x, "worth 7");
        x.terms(1, 2);
        x.give(0, 1);
        due("37: above", x.image(2), -1);
        due("37: below", x.image(-1), -1);
        due("38: above", x.back(2), -1);
        due("38: below", x.back(-1), -1);
        due("38: not kept", x.back(0), -2);
        due("37: kept", x.image(1), 0);
        due("38: other not kept", x.back(0), -2);
        Check.rule(x, "worth 8");
        x.await();
        x.await();
        x.lord(1, 1);
        x.good(3, 1, 1);
        x.herald(4);
        x.road(0, 3, 1, 1);
        x.shelf(0, 3);
        x.terms(2, 5);
        Check.type(x, "abc");
        due("38: back", x.back(1), 0);
        int[] due = {3, 1, 1, 1, 1, 1, 0, 3};
        for (int what = 0; what < due.length; what++) {
            due("38: count(" + what + ")", x.count(what), due[what]);
        }
        due("38: force", x.count(13), 0);
        due("38: year", x.count(14), 0);
        due("38: grace", x.count(15), 2);
        due("38: mood", x.count(16), 0);
        due("38: challenge", x.debt(1, 0, 0), 7);
        due("38: shelf", x.shelf(0, -1), 2);
        due("38: lost", x.of(1, 4), 0);
        due("38: worth", x.asks(0, 2, 0), 7);
        due("38: nothing to undo", x.undo(), -3);
        due("38: images stay", x.back(1), 0);
        x.end(0);
        due("38: a law again", Check.law(x, "worth 9"), 1);
        x.force(1);
        due("38: the new one", x.asks(0, 2, 0), 9);
        due("38: refusals stay counted", x.count(8), 4);
        x.image(0);
        x.back(1);
        x.back(0);
        due("38: two images", x.count(13), 1);
        Check.law(x, "worth");
        Check.typeBytes(x, new byte[] {9});
        x.row();
        Check.orders(x, "give 9 to 9");
        x.back(0);
        due("38: fault is not kept", x.fault(), -1);
        due("38: dross is not kept", x.dross(), 1);
        due("38: stopped is not kept", x.stopped(), 0);
    }

    private static void countAndStatus() {
        GiftDuel x = hall();
        x.lord(-1, 0);
        due("40: -1", x.status(), -1);
        x.of(9, 9);
        x.feed(0, 0, 0, 0, 0);
        x.end(99);
        x.end(0);
        due("40: others leave it", x.status(), -1);
        x.give(0, 0);
        due("40: -2", x.status(), -2);
        x.undo();
        due("40: -3", x.status(), -3);
        x.row();
        due("40: -6", x.status(), -6);
        for (int i = 0; i < 6; i++) {
            x.herald(1);
        }
        due("40: -5", x.status(), -5);
        x.terms(0, 0);
        due("40: 0", x.status(), 0);
        int[] due = {1, 1, 1, 1, 1};
        for (int i = 0; i < 5; i++) {
            due("39: refused, count(" + (8 + i) + ")", x.count(8 + i), due[i]);
        }
        due("39: above", x.count(17), -1);
        due("39: below", x.count(-1), -1);
        due("39: far", x.count(Integer.MIN_VALUE), -1);
        statusOfEach();
    }

    private static void statusOfEach() {
        for (int which = 0; which < 17; which++) {
            GiftDuel x = hall();
            int got;
            switch (which) {
                case 0: got = x.lord(-1, 0); break;
                case 1: got = x.put(9, 0, 0); break;
                case 2: got = x.good(9, 0, 0); break;
                case 3: got = x.terms(9, 0); break;
                case 4: got = x.row(); break;
                case 5: got = x.law(); break;
                case 6: got = x.orders(); break;
                case 7: got = x.force(9); break;
                case 8: got = x.give(9, 9); break;
                case 9: x.terms(0, 999); got = x.await(); break;
                case 10: got = x.undo(); break;
                case 11: got = x.herald(0); break;
                case 12: got = x.road(9, 8, 1, 1); break;
                case 13: got = x.shelf(9, -9); break;
                case 14: got = x.generation(-1, 0); break;
                case 15: got = x.image(9); break;
                default: got = x.back(0); break;
            }
            due("40: call " + which + " is refused", got < 0 ? 1 : 0, 1);
            due("40: call " + which, x.status(), got);
            int sum = 0;
            for (int what = 8; what <= 12; what++) {
                sum += x.count(what);
            }
            due("39: call " + which + " is counted", sum, 1);
            x.image(0);
            due("40: image behind call " + which, x.status(), 0);
        }
    }
}
