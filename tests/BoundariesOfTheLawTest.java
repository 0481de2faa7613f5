/** Promises 1 to 12 but the texts (8), the edges alone: what is taken last and refused first, empty and full. */
public final class BoundariesOfTheLawTest {
    private static final int MIN = Integer.MIN_VALUE, MAX = Integer.MAX_VALUE;
    private static final Due due = new Due();

    // ---- promise 1

    static void promise01ANewObjectHasNoCheese() {
        ThreadsAndSplits x = new ThreadsAndSplits();
        due.is("count(3)", x.count(3), 0);
        due.is("sortTold(0, 0)", x.sortTold(0, 0), -5);
        due.is("taken(0, 6)", x.taken(0, 6), -11);
    }

    static void promise01ANewObjectHasNoAct() {
        ThreadsAndSplits x = new ThreadsAndSplits();
        due.is("count(4)", x.count(4), 0);
        due.is("actTold(0, 0)", x.actTold(0, 0), -5);
        due.is("taken(4, 0)", x.taken(4, 0), -11);
        due.is("forget()", x.forget(), -3);
        due.is("pot(0, 5)", x.pot(0, 5), 20);
        due.is("pot(1, 5)", x.pot(1, 5), -5);
    }

    static void promise01ItsFlameIs4ItsWine20ItsSour3() {
        ThreadsAndSplits x = new ThreadsAndSplits();
        due.is("flame", x.count(0), 4);
        due.is("wine", x.count(1), 20);
        due.is("sour", x.count(2), 3);
    }

    static void promise01ItHasOneTextWhichIsTheLaw() {
        ThreadsAndSplits x = new ThreadsAndSplits();
        due.is("count(5)", x.count(5), 1);
        due.is("count(6)", x.count(6), 0);
        due.is("force(1)", x.force(1), -2);
    }

    static void promise01ItsTapeIsEmptyItsSheetsAreMissingItHasNoImage() {
        ThreadsAndSplits x = new ThreadsAndSplits();
        due.is("count(7)", x.count(7), 0);
        for (int s = 0; s < 4; s++) {
            due.is("cell", x.cell(s, 0, 0), -11);
        }
        due.is("back()", x.back(), -3);
    }

    static void promise01EachObjectKeepsItsOwn() {
        ThreadsAndSplits one = Twins.full();
        ThreadsAndSplits other = new ThreadsAndSplits();
        due.is("cheeses of one", one.count(3), 4);
        due.is("cheeses of the other", other.count(3), 0);
        due.is("acts of the other", other.count(4), 0);
        due.is("texts of the other", other.count(5), 1);
    }

    // ---- promise 2

    private static int cheeseBut(int place, int v) {
        int[] five = {5, 5, 5, 5, 5};
        five[place] = v;
        return new ThreadsAndSplits().cheese(five[0], five[1], five[2], five[3], five[4]);
    }

    static void promise02WeeksAreFrom1To99() {
        due.is("0", cheeseBut(0, 0), -2);
        due.is("1", cheeseBut(0, 1), 0);
        due.is("99", cheeseBut(0, 99), 0);
        due.is("100", cheeseBut(0, 100), -2);
        due.is("the least int", cheeseBut(0, MIN), -2);
        due.is("the greatest int", cheeseBut(0, MAX), -2);
    }

    private static void from0To99(int place) {
        due.is("-1", cheeseBut(place, -1), -2);
        due.is("0", cheeseBut(place, 0), 0);
        due.is("99", cheeseBut(place, 99), 0);
        due.is("100", cheeseBut(place, 100), -2);
        due.is("the least int", cheeseBut(place, MIN), -2);
        due.is("the greatest int", cheeseBut(place, MAX), -2);
    }

    static void promise02FatIsFrom0To99() {
        from0To99(1);
    }

    static void promise02WetIsFrom0To99() {
        from0To99(2);
    }

    static void promise02LimeIsFrom0To99() {
        from0To99(3);
    }

    static void promise02TasteIsFrom0To99() {
        from0To99(4);
    }

    private static ThreadsAndSplits fourCheeses() {
        ThreadsAndSplits x = new ThreadsAndSplits();
        for (int i = 0; i < 4; i++) {
            due.is("numbered from 0 on", x.cheese(10 + i, 20 + i, 30 + i, 40 + i, 50 + i), i);
        }
        return x;
    }

    static void promise02FourAreTakenTheFifthIsFull() {
        ThreadsAndSplits x = fourCheeses();
        due.is("the fifth", x.cheese(1, 0, 0, 0, 0), -4);
        due.is("how many", x.count(3), 4);
        for (int what = 0; what < 5; what++) {
            due.is("the first stays", x.sortTold(0, what), 10 * what + 10);
            due.is("the last stays", x.sortTold(3, what), 10 * what + 13);
        }
        due.is("sortTold(4, 0)", x.sortTold(4, 0), -5);
    }

    static void promise02BadIsToldAheadOfFull() {
        due.is("bad and full", fourCheeses().cheese(0, 0, 0, 0, 0), -2);
        due.is("bad and full", fourCheeses().cheese(1, 0, 0, 0, 100), -2);
    }

    static void promise02ARefusedOneTakesNoNumber() {
        ThreadsAndSplits x = new ThreadsAndSplits();
        due.is("refused", x.cheese(100, 0, 0, 0, 0), -2);
        due.is("count(3)", x.count(3), 0);
        due.is("the next", x.cheese(99, 0, 0, 0, 0), 0);
    }

    // ---- promises 3 and 4

    static void promise03OfNoCheeseThereIsNone() {
        due.is("of none", new ThreadsAndSplits().ripen(0, 0, 1), -5);
        ThreadsAndSplits x = new ThreadsAndSplits();
        x.cheese(1, 2, 3, 4, 5);
        x.cheese(1, 2, 3, 4, 5);
        due.is("below", x.ripen(-1, 0, 1), -5);
        due.is("the first", x.ripen(0, 1, 1), 2);
        due.is("the last", x.ripen(1, 1, 1), 2);
        due.is("behind", x.ripen(2, 0, 1), -5);
        ThreadsAndSplits y = fourCheeses();
        due.is("the fourth", y.ripen(3, 0, 1), 13);
        due.is("the fifth", y.ripen(4, 0, 1), -5);
        due.is("the least int", y.ripen(MIN, 0, 1), -5);
        due.is("the greatest int", y.ripen(MAX, 0, 1), -5);
    }

    static void promise03WhatIsFrom0To4() {
        ThreadsAndSplits x = fourCheeses();
        due.is("-1", x.ripen(0, -1, 1), -7);
        due.is("0", x.ripen(0, 0, 1), 10);
        due.is("4", x.ripen(0, 4, 1), 50);
        due.is("5", x.ripen(0, 5, 1), -7);
        due.is("the least int", x.ripen(0, MIN, 1), -7);
        due.is("the greatest int", x.ripen(0, MAX, 1), -7);
    }

    static void promise03WeeksBecome1To99() {
        ThreadsAndSplits x = fourCheeses();
        due.is("0", x.ripen(0, 0, 0), -7);
        due.is("it stays", x.sortTold(0, 0), 10);
        due.is("1", x.ripen(0, 0, 1), 10);
        due.is("99", x.ripen(0, 0, 99), 1);
        due.is("100", x.ripen(0, 0, 100), -7);
        due.is("it stays", x.sortTold(0, 0), 99);
        due.is("the least int", x.ripen(0, 0, MIN), -7);
        due.is("the greatest int", x.ripen(0, 0, MAX), -7);
    }

    static void promise03AllElseBecomes0To99() {
        for (int what = 1; what < 5; what++) {
            ThreadsAndSplits x = fourCheeses();
            due.is("-1", x.ripen(3, what, -1), -7);
            due.is("it stays", x.sortTold(3, what), 10 * what + 13);
            due.is("0", x.ripen(3, what, 0), 10 * what + 13);
            due.is("99", x.ripen(3, what, 99), 0);
            due.is("100", x.ripen(3, what, 100), -7);
            due.is("it stays", x.sortTold(3, what), 99);
            due.is("the others stay", x.sortTold(2, what), 10 * what + 12);
        }
    }

    static void promise03TheCheeseIsToldAheadOfTheRest() {
        due.is("all three", fourCheeses().ripen(4, 5, 100), -5);
        due.is("what and v", fourCheeses().ripen(3, 5, 100), -7);
    }

    static void promise03ItBecomesWhatItWas() {
        due.is("the same once more", fourCheeses().ripen(1, 2, 31), 31);
    }

    static void promise04OfNoCheeseThereIsNone() {
        due.is("of none", new ThreadsAndSplits().sortTold(0, 0), -5);
        ThreadsAndSplits x = fourCheeses();
        due.is("below", x.sortTold(-1, 0), -5);
        due.is("the first", x.sortTold(0, 0), 10);
        due.is("the fourth", x.sortTold(3, 0), 13);
        due.is("the fifth", x.sortTold(4, 0), -5);
        due.is("the least int", x.sortTold(MIN, 0), -5);
        due.is("the greatest int", x.sortTold(MAX, 0), -5);
    }

    static void promise04WhatIsFrom0To4() {
        ThreadsAndSplits x = fourCheeses();
        due.is("-1", x.sortTold(1, -1), -7);
        due.is("0", x.sortTold(1, 0), 11);
        due.is("4", x.sortTold(1, 4), 51);
        due.is("5", x.sortTold(1, 5), -7);
        due.is("the least int", x.sortTold(1, MIN), -7);
        due.is("the greatest int", x.sortTold(1, MAX), -7);
    }

    static void promise04TheCheeseIsToldAheadOfWhat() {
        due.is("both", fourCheeses().sortTold(4, 5), -5);
        due.is("both", fourCheeses().sortTold(-1, -1), -5);
    }

    // ---- promises 5 and 6

    private static void isSetFrom0To(int what, int most, int first) {
        ThreadsAndSplits x = new ThreadsAndSplits();
        due.is("-1", x.set(what, -1), -2);
        due.is("the least int", x.set(what, MIN), -2);
        due.is("it stays", x.count(what), first);
        due.is("0", x.set(what, 0), first);
        due.is("it is", x.count(what), 0);
        due.is("the most", x.set(what, most), 0);
        due.is("it is", x.count(what), most);
        due.is("one more", x.set(what, most + 1), -2);
        due.is("the greatest int", x.set(what, MAX), -2);
        due.is("it stays", x.count(what), most);
    }

    static void promise05FlameIsFrom0To9() {
        isSetFrom0To(0, 9, 4);
    }

    static void promise05WineIsFrom0To99() {
        isSetFrom0To(1, 99, 20);
    }

    static void promise05SourIsFrom0To9() {
        isSetFrom0To(2, 9, 3);
    }

    static void promise05WhatIsFrom0To2() {
        ThreadsAndSplits x = new ThreadsAndSplits();
        due.is("-1", x.set(-1, 5), -1);
        due.is("0", x.set(0, 5), 4);
        due.is("2", x.set(2, 5), 3);
        due.is("3", x.set(3, 5), -1);
        due.is("the least int", x.set(MIN, 5), -1);
        due.is("the greatest int", x.set(MAX, 5), -1);
    }

    static void promise05NoneIsToldAheadOfBad() {
        due.is("both", new ThreadsAndSplits().set(3, -1), -1);
        due.is("both", new ThreadsAndSplits().set(-1, 100), -1);
    }

    static void promise05WhatIsSetIsThePotsAtFirst() {
        ThreadsAndSplits x = new ThreadsAndSplits();
        x.set(1, 99);
        x.set(2, 9);
        due.is("water", x.pot(0, 5), 99);
        due.is("sour", x.pot(0, 6), 9);
        x.set(1, 0);
        x.set(2, 0);
        due.is("water", x.pot(0, 5), 0);
        due.is("sour", x.pot(0, 6), 0);
    }

    static void promise06WhatIsFrom0To7() {
        ThreadsAndSplits x = new ThreadsAndSplits();
        due.is("-1", x.count(-1), -2);
        due.is("0", x.count(0), 4);
        due.is("7", x.count(7), 0);
        due.is("8", x.count(8), -2);
        due.is("the least int", x.count(MIN), -2);
        due.is("the greatest int", x.count(MAX), -2);
    }

    static void promise06EmptyAndFull() {
        int[] empty = {4, 20, 3, 0, 0, 1, 0, 0};
        int[] full = {6, 33, 7, 4, 12, 6, 1, 160};
        ThreadsAndSplits x = new ThreadsAndSplits();
        ThreadsAndSplits y = Twins.full();
        for (int what = 0; what < 8; what++) {
            due.is("empty, " + what, x.count(what), empty[what]);
            due.is("full, " + what, y.count(what), full[what]);
        }
    }

    // ---- promise 7

    private static ThreadsAndSplits taped(int bytes) {
        ThreadsAndSplits x = new ThreadsAndSplits();
        Make.feed(x, " ".repeat(bytes));
        due.is("on the tape", x.count(7), bytes);
        return x;
    }

    static void promise07From1To5Come() {
        due.is("0", taped(0).feed(0, 32, 32, 32, 32, 32), -2);
        due.is("1", taped(0).feed(1, 32, 32, 32, 32, 32), 1);
        due.is("5", taped(0).feed(5, 32, 32, 32, 32, 32), 5);
        due.is("6", taped(0).feed(6, 32, 32, 32, 32, 32), -2);
        due.is("-1", taped(0).feed(-1, 32, 32, 32, 32, 32), -2);
        due.is("the least int", taped(0).feed(MIN, 32, 32, 32, 32, 32), -2);
        due.is("the greatest int", taped(0).feed(MAX, 32, 32, 32, 32, 32), -2);
    }

    private static int fedBut(int n, int place, int v) {
        int[] five = {65, 65, 65, 65, 65};
        five[place] = v;
        ThreadsAndSplits x = new ThreadsAndSplits();
        int fed = x.feed(n, five[0], five[1], five[2], five[3], five[4]);
        due.is("on the tape", x.count(7), Math.max(0, fed));
        return fed;
    }

    static void promise07EachByteIsFrom0To255() {
        for (int place = 0; place < 5; place++) {
            due.is("-1", fedBut(5, place, -1), -2);
            due.is("0", fedBut(5, place, 0), 5);
            due.is("255", fedBut(5, place, 255), 5);
            due.is("256", fedBut(5, place, 256), -2);
            due.is("the least int", fedBut(5, place, MIN), -2);
            due.is("the greatest int", fedBut(5, place, MAX), -2);
        }
    }

    static void promise07AlsoABytePastTheFirstNIsRefused() {
        for (int n = 1; n < 5; n++) {
            for (int place = n; place < 5; place++) {
                due.is("-1", fedBut(n, place, -1), -2);
                due.is("256", fedBut(n, place, 256), -2);
                due.is("255", fedBut(n, place, 255), n);
            }
        }
    }

    static void promise07TheTapeTakes160Bytes() {
        for (int n = 1; n <= 5; n++) {
            due.is("just room", taped(160 - n).feed(n, 32, 32, 32, 32, 32), 160);
            ThreadsAndSplits x = taped(161 - n);
            due.is("no room for the last", x.feed(n, 32, 32, 32, 32, 32), -4);
            due.is("none comes", x.count(7), 161 - n);
            due.is("full", taped(160).feed(n, 32, 32, 32, 32, 32), -4);
        }
    }

    static void promise07BadIsToldAheadOfFull() {
        due.is("n", taped(160).feed(0, 32, 32, 32, 32, 32), -2);
        due.is("n", taped(160).feed(6, 32, 32, 32, 32, 32), -2);
        due.is("a byte", taped(160).feed(1, 32, 32, 32, 32, 256), -2);
    }

    static void promise07TheyComeOneByOneBehindWhatIsThere() {
        ThreadsAndSplits x = new ThreadsAndSplits();
        x.feed(4, 'm', 'e', 'l', 't', 'x');
        x.feed(3, ' ', '1', ';', 'x', 'x');
        x.feed(5, 's', 'p', 'l', 'i', 't');
        x.feed(3, ' ', '2', ';', 'x', 'x');
        x.feed(5, 't', 'h', 'r', 'e', 'a');
        due.is("all", x.feed(4, 'd', ' ', '3', ';', 'x'), 24);
        due.is("a text", x.text(), 1);
    }

    // ---- promise 9

    static void promise09TextsAreFrom0ToTheLast() {
        ThreadsAndSplits x = new ThreadsAndSplits();
        due.is("-1", x.force(-1), -2);
        due.is("0", x.force(0), 0);
        due.is("not yet there", x.force(1), -2);
        ThreadsAndSplits y = Twins.full();
        due.is("the sixth", y.force(5), 1);
        due.is("the seventh", y.force(6), -2);
        due.is("the least int", y.force(MIN), -2);
        due.is("the greatest int", y.force(MAX), -2);
        due.is("refused, it stays", y.count(6), 5);
        due.is("the first", y.force(0), 5);
        due.is("it is", y.count(6), 0);
    }

    static void promise09AFaultGivesNoTextToForce() {
        ThreadsAndSplits x = new ThreadsAndSplits();
        due.is("a fault", Make.read(x, "melt"), -104);
        due.is("force(1)", x.force(1), -2);
    }

    // ---- promises 10 to 12

    static void promise10KindIsFrom0To5() {
        due.is("-1", new ThreadsAndSplits().act(-1, 1, 1), -2);
        due.is("0", new ThreadsAndSplits().act(0, 1, 1), 0);
        due.is("5", new ThreadsAndSplits().act(5, 1, 1), 0);
        due.is("6", new ThreadsAndSplits().act(6, 1, 1), -2);
        due.is("the least int", new ThreadsAndSplits().act(MIN, 1, 1), -2);
        due.is("the greatest int", new ThreadsAndSplits().act(MAX, 1, 1), -2);
    }

    static void promise10MoreIsFrom0To9() {
        due.is("-1", new ThreadsAndSplits().act(1, -1, 1), -2);
        due.is("0", new ThreadsAndSplits().act(1, 0, 1), 0);
        due.is("9", new ThreadsAndSplits().act(1, 9, 1), 0);
        due.is("10", new ThreadsAndSplits().act(1, 10, 1), -2);
        due.is("the least int", new ThreadsAndSplits().act(1, MIN, 1), -2);
        due.is("the greatest int", new ThreadsAndSplits().act(1, MAX, 1), -2);
    }

    static void promise10OfIsFrom0To9() {
        due.is("-1", new ThreadsAndSplits().act(1, 1, -1), -2);
        due.is("0", new ThreadsAndSplits().act(1, 1, 0), 0);
        due.is("9", new ThreadsAndSplits().act(1, 1, 9), 0);
        due.is("10", new ThreadsAndSplits().act(1, 1, 10), -2);
        due.is("the least int", new ThreadsAndSplits().act(1, 1, MIN), -2);
        due.is("the greatest int", new ThreadsAndSplits().act(1, 1, MAX), -2);
    }

    private static ThreadsAndSplits twelveActs() {
        ThreadsAndSplits x = new ThreadsAndSplits();
        for (int i = 0; i < 12; i++) {
            due.is("numbered from 0 on", x.act(i % 6, i % 10, 9 - i % 10), i);
        }
        return x;
    }

    static void promise10TwelveAreTakenTheThirteenthIsFull() {
        ThreadsAndSplits x = twelveActs();
        due.is("the thirteenth", x.act(1, 1, 1), -4);
        due.is("how many", x.count(4), 12);
        due.is("the last stays", x.actTold(11, 0), 5);
        due.is("the last stays", x.actTold(11, 1), 1);
        due.is("the last stays", x.actTold(11, 2), 8);
    }

    static void promise10BadIsToldAheadOfFull() {
        due.is("kind", twelveActs().act(6, 0, 0), -2);
        due.is("more", twelveActs().act(0, -1, 0), -2);
        due.is("of", twelveActs().act(0, 0, 10), -2);
    }

    static void promise10OfACheeseThatIsNotThereIsTaken() {
        due.is("no cheese at all", new ThreadsAndSplits().act(2, 9, 9), 0);
    }

    static void promise11NoActIsState() {
        due.is("none", new ThreadsAndSplits().forget(), -3);
        ThreadsAndSplits x = new ThreadsAndSplits();
        x.act(0, 0, 0);
        due.is("the only one", x.forget(), 0);
        due.is("none any more", x.forget(), -3);
        due.is("how many", x.count(4), 0);
        due.is("it comes again", x.act(1, 2, 3), 0);
    }

    static void promise11TheLatestOfTwelveIsNoneAnyMore() {
        ThreadsAndSplits x = twelveActs();
        due.is("how many there are", x.forget(), 11);
        due.is("the latest is gone", x.actTold(11, 0), -5);
        due.is("the one ahead stays", x.actTold(10, 0), 4);
        due.is("there is room for one", x.act(3, 3, 3), 11);
        due.is("it is the new one", x.actTold(11, 1), 3);
        due.is("there is no room for two", x.act(3, 3, 3), -4);
    }

    static void promise12OfNoActThereIsNone() {
        due.is("of none", new ThreadsAndSplits().actTold(0, 0), -5);
        ThreadsAndSplits x = twelveActs();
        due.is("below", x.actTold(-1, 0), -5);
        due.is("the first", x.actTold(0, 2), 9);
        due.is("the twelfth", x.actTold(11, 2), 8);
        due.is("the thirteenth", x.actTold(12, 0), -5);
        due.is("the least int", x.actTold(MIN, 0), -5);
        due.is("the greatest int", x.actTold(MAX, 0), -5);
        x.forget();
        due.is("a forgotten one", x.actTold(11, 0), -5);
    }

    static void promise12WhatIsFrom0To4() {
        ThreadsAndSplits x = twelveActs();
        due.is("-1", x.actTold(0, -1), -7);
        due.is("0", x.actTold(5, 0), 5);
        due.is("4", x.actTold(5, 4), 1);
        due.is("5", x.actTold(0, 5), -7);
        due.is("the least int", x.actTold(0, MIN), -7);
        due.is("the greatest int", x.actTold(0, MAX), -7);
    }

    static void promise12TheActIsToldAheadOfWhat() {
        due.is("both", twelveActs().actTold(12, 5), -5);
        due.is("both", new ThreadsAndSplits().actTold(0, -1), -5);
    }

    static void promise12MinutesOfTheLeastAndTheGreatestMore() {
        int[] least = {1, 1, 1, 1, 1, 1};
        int[] one = {2, 1, 1, 2, 1, 1};
        int[] two = {3, 1, 1, 3, 1, 2};
        int[] most = {10, 1, 1, 10, 1, 9};
        for (int kind = 0; kind < 6; kind++) {
            ThreadsAndSplits x = new ThreadsAndSplits();
            Make.acts(x, kind, 0, 5, kind, 1, 5, kind, 2, 5, kind, 9, 5);
            due.is("more 0 of kind " + kind, x.actTold(0, 3), least[kind]);
            due.is("more 1 of kind " + kind, x.actTold(1, 3), one[kind]);
            due.is("more 2 of kind " + kind, x.actTold(2, 3), two[kind]);
            due.is("more 9 of kind " + kind, x.actTold(3, 3), most[kind]);
            due.is("they pass", x.pot(1, 9), least[kind]);
            due.is("they pass", x.pot(4, 9), least[kind] + one[kind] + two[kind] + most[kind]);
            due.is("stirred", x.actTold(0, 4), kind == 0 ? 0 : 1);
        }
    }

    public static void main(String[] args) {
        Named.run(BoundariesOfTheLawTest.class, due, 1, 2, 3, 4, 5, 6, 7, 9, 10, 11, 12);
    }
}
