/** Promises 16 to 30, the edges alone: with what it holds, what saves it, mixtures, weeks, handfuls, the table. */
public final class BoundariesOfSavingTest {
    private static final int MIN = Integer.MIN_VALUE, MAX = Integer.MAX_VALUE;
    private static final long NO = -4611686018427387904L;
    private static final String STILL = "melt 0;split 0;thread 0;";
    private static final Due due = new Due();

    private static ThreadsAndSplits pot(String law, int... acts) {
        ThreadsAndSplits x = Make.under(law);
        Make.acts(x, acts);
        return x;
    }

    // ---- promises 16 to 18

    /**
     * One handful, and a MINUTE that is not stirred. HEAT of flames 0 to 9: 13, 17, 20, 24, 28, 32, 36, 40, 44, 48 in
     * the first MINUTE, 9, 16, 21, 28, 34, 41, 48, 54, 61, 68 in the second.
     */
    private static ThreadsAndSplits splitting(String when) {
        ThreadsAndSplits x = pot("melt 0;split (" + when + ")*100;thread 0;", 2, 1, 0, 0, 0, 0);
        x.cheese(5, 10, 0, 0, 0);
        return x;
    }

    static void promise16FromNoFlameToAllOfThem() {
        due.is("none", splitting("12<heat").flames(), 0);
        due.is("0 alone", splitting("13<heat").flames(), 1);
        due.is("0 and 1", splitting("17<heat").flames(), 3);
        due.is("all but 9", splitting("67<heat").flames(), 511);
        due.is("all", splitting("68<heat").flames(), 1023);
        due.is("9 alone", splitting("heat<45").flames(), 512);
        due.is("none", splitting("heat<49").flames(), 0);
    }

    static void promise16WhateverFlameIsTold() {
        for (int flame = 0; flame <= 9; flame++) {
            ThreadsAndSplits x = splitting("17<heat");
            x.set(0, flame);
            due.is("flame " + flame, x.flames(), 3);
            due.is("it stays", x.count(0), flame);
        }
    }

    static void promise16AnEmptyPotHolds() {
        due.is("no act", new ThreadsAndSplits().flames(), 1023);
        ThreadsAndSplits x = splitting("heat<999");
        due.is("a handful", x.flames(), 0);
        x.forget();
        x.forget();
        due.is("none", x.flames(), 1023);
    }

    static void promise17FromNoSourToAllOfThem() {
        due.is("none", splitting("0<sour+1").sours(), 0);
        due.is("0 alone", splitting("0<sour").sours(), 1);
        due.is("all but 9", splitting("8<sour").sours(), 511);
        due.is("all", splitting("9<sour").sours(), 1023);
        due.is("9 alone", splitting("sour<9").sours(), 512);
        due.is("none", splitting("sour<10").sours(), 0);
        due.is("an empty pot", new ThreadsAndSplits().sours(), 1023);
    }

    static void promise17WhateverSourIsTold() {
        for (int sour = 0; sour <= 9; sour++) {
            ThreadsAndSplits x = splitting("4<sour");
            x.set(2, sour);
            due.is("sour " + sour, x.sours(), 31);
            due.is("it stays", x.count(2), sour);
        }
    }

    static void promise18FromNoneToAllHundred() {
        due.is("none", splitting("12<heat or 9<sour").region(), 0);
        due.is("one", splitting("13<heat or 0<sour").region(), 1);
        due.is("one", splitting("heat<45 or sour<9").region(), 1);
        due.is("all but one", splitting("67<heat and 8<sour").region(), 99);
        due.is("all", splitting("68<heat or 9<sour").region(), 100);
        due.is("an empty pot", new ThreadsAndSplits().region(), 100);
    }

    static void promise18WhateverIsTold() {
        for (int told = 0; told <= 9; told++) {
            ThreadsAndSplits x = splitting("17<heat or 2<sour");
            x.set(0, told);
            x.set(2, 9 - told);
            due.is("two flames, three sours", x.region(), 6);
        }
    }

    // ---- promise 19

    /** Flame 0: no WATER goes, so that WINE is what the law sees. */
    private static int mostBut(String when, int wine) {
        ThreadsAndSplits x = splitting(when);
        x.set(0, 0);
        x.set(1, wine);
        int most = x.most();
        due.is("the wine stays", x.count(1), wine);
        return most;
    }

    static void promise19UpTo99() {
        due.is("from 0", mostBut("0", 0), 99);
        due.is("from 98", mostBut("0", 98), 99);
        due.is("from 99", mostBut("0", 99), 99);
        due.is("not 99", mostBut("water=99", 0), 98);
        due.is("not 99", mostBut("water=99", 98), 98);
    }

    static void promise19NotWithWhatThereIs() {
        due.is("at 0", mostBut("water=0", 0), -1);
        due.is("at 20", mostBut("water=20", 20), -1);
        due.is("at 99", mostBut("water=99", 99), -1);
        due.is("at none", mostBut("1", 50), -1);
    }

    static void promise19WithEachLessFromWhatThereIsOn() {
        due.is("just that", mostBut("20<water", 20), 20);
        due.is("up to the first", mostBut("water=50 or water=60", 20), 49);
        due.is("behind the first", mostBut("water=50 or water=60", 51), 59);
        due.is("less doesn't matter", mostBut("water<20", 20), 99);
        due.is("an empty pot", new ThreadsAndSplits().most(), 99);
    }

    // ---- promise 20

    private static void odds(String when, int flame, int off, long above, long below) {
        ThreadsAndSplits x = splitting(when);
        x.set(0, flame);
        due.is(when + ", flame " + flame + " off by " + off + ", above", x.odds(off, 0), above);
        due.is(when + ", flame " + flame + " off by " + off + ", below", x.odds(off, 1), below);
    }

    static void promise20OffIsFrom0To5() {
        ThreadsAndSplits x = splitting("0");
        due.is("-1", x.odds(-1, 0), NO);
        due.is("0", x.odds(0, 0), 1);
        due.is("5", x.odds(5, 0), 1);
        due.is("6", x.odds(6, 0), NO);
        due.is("the least int", x.odds(MIN, 0), NO);
        due.is("the greatest int", x.odds(MAX, 0), NO);
    }

    static void promise20PartIs0Or1() {
        ThreadsAndSplits x = splitting("1");
        due.is("-1", x.odds(0, -1), NO);
        due.is("0", x.odds(0, 0), 0);
        due.is("1", x.odds(0, 1), 1);
        due.is("2", x.odds(0, 2), NO);
        due.is("the least int", x.odds(0, MIN), NO);
        due.is("the greatest int", x.odds(0, MAX), NO);
    }

    static void promise20BelowFlame0ItIs0() {
        // Flame 0 alone holds: of -5 .. 5 six are 0.
        odds("13<heat", 0, 5, 6, 11);
        odds("13<heat", 0, 1, 2, 3);
        odds("13<heat", 1, 1, 1, 3);
        odds("13<heat", 2, 1, 0, 1);
        odds("13<heat", 4, 5, 2, 11);
        odds("13<heat", 5, 5, 1, 11);
        odds("13<heat", 6, 5, 0, 1);
    }

    static void promise20AboveFlame9ItIs9() {
        odds("heat<45", 9, 5, 6, 11);
        odds("heat<45", 9, 1, 2, 3);
        odds("heat<45", 8, 1, 1, 3);
        odds("heat<45", 7, 1, 0, 1);
        odds("heat<45", 5, 5, 2, 11);
        odds("heat<45", 4, 5, 1, 11);
        odds("heat<45", 3, 5, 0, 1);
    }

    static void promise20InLowestTerms() {
        // Flames 0 to 2 hold.
        odds("21<heat", 4, 4, 1, 3);
        odds("21<heat", 4, 3, 2, 7);
        odds("21<heat", 2, 1, 2, 3);
        odds("21<heat", 1, 1, 1, 1);
        odds("21<heat", 0, 0, 1, 1);
        odds("21<heat", 3, 0, 0, 1);
        odds("21<heat", 9, 5, 0, 1);
    }

    static void promise20AnEmptyPotSurelyHolds() {
        due.is("above", new ThreadsAndSplits().odds(5, 0), 1);
        due.is("below", new ThreadsAndSplits().odds(5, 1), 1);
    }

    // ---- promise 21

    /** Behind three acts HELD 0, DROPS 20, OIL 20, FREE 80: strokes of a strength bring back five times that. */
    private static ThreadsAndSplits oily() {
        ThreadsAndSplits x = pot("melt 100;split (4<sour)*100;thread 50;", 2, 4, 0, 1, 4, 8, 0, 0, 0);
        x.cheese(5, 10, 0, 20, 0);
        due.is("oil", x.pot(3, 4), 20);
        return x;
    }

    static void promise21NIsFrom0ToHowManyActsThereAre() {
        due.is("-1 of none", new ThreadsAndSplits().save(-1, 0, 0), -5);
        due.is("0 of none", new ThreadsAndSplits().save(0, 0, 0), 0);
        due.is("1 of none", new ThreadsAndSplits().save(1, 0, 0), -5);
        due.is("12 of 12", Twins.full().save(12, 0, 1) >= 0 ? 1 : 0, 1);
        due.is("13 of 12", Twins.full().save(13, 0, 0), -5);
        due.is("the least int", oily().save(MIN, 0, 0), -5);
        due.is("the greatest int", oily().save(MAX, 0, 0), -5);
    }

    static void promise21HowIsFrom0To99() {
        due.is("-1", oily().save(3, -1, 1), -7);
        due.is("0", oily().save(3, 0, 1), 20);
        due.is("99", oily().save(3, 99, 1), 0);
        due.is("100", oily().save(3, 100, 1), -7);
        due.is("the least int", oily().save(3, MIN, 1), -7);
        due.is("the greatest int", oily().save(3, MAX, 1), -7);
    }

    static void promise21WhatIsFrom0To2() {
        due.is("-1", oily().save(3, 99, -1), -7);
        due.is("0", oily().save(3, 99, 0), 3);
        due.is("2", oily().save(3, 99, 2), 1);
        due.is("3", oily().save(3, 99, 3), -7);
        due.is("the least int", oily().save(3, 99, MIN), -7);
        due.is("the greatest int", oily().save(3, 99, MAX), -7);
    }

    static void promise21NIsToldAheadOfTheRest() {
        due.is("all", oily().save(4, 100, 3), -5);
        due.is("all", oily().save(-1, -1, -1), -5);
    }

    static void promise21OfLikeOnesTheFirst() {
        // With MORE 0 an ACT lets 10 more rise, a POUR is the first of those that let 20 be.
        due.is("of kinds 1 to 5", oily().save(3, 0, 0), 1);
        due.is("of kinds 3 and 5", oily().save(3, 10, 0), 3);
        due.is("of all", oily().save(0, 99, 0), 0);
        due.is("of all", oily().save(1, 99, 0), 0);
    }

    static void promise21MoreIsHowBy10OfIsTheRest() {
        // 5 less by MORE 1, none left by MORE 4, whatever OF says.
        int[][] left = {{9, 20}, {10, 15}, {19, 15}, {20, 10}, {39, 5}, {40, 0}, {90, 0}};
        for (int[] l : left) {
            due.is("how " + l[0], oily().save(3, l[0], 1), l[1]);
        }
    }

    static void promise21HoldsAtItsEdge() {
        // OIL 5 and DROPS 35: 20 is not above 35. OIL 10 and DROPS 30: 40 is above 30.
        due.is("5", oily().save(3, 30, 2), 1);
        due.is("10", oily().save(3, 20, 2), 0);
    }

    static void promise21TheActIsTriedNotDoneAlsoBehindTwelve() {
        ThreadsAndSplits x = Twins.full();
        due.is("n 12", x.save(12, 99, 0) >= 0 ? 1 : 0, 1);
        due.is("acts", x.count(4), 12);
        due.is("the last one", x.actTold(11, 1), 1);
    }

    // ---- promises 22 and 23

    static void promise22NIsFrom0ToHowManyActsThereAre() {
        due.is("-1 of none", new ThreadsAndSplits().why(-1), -5);
        due.is("0 of none", new ThreadsAndSplits().why(0), -1);
        due.is("1 of none", new ThreadsAndSplits().why(1), -5);
        due.is("2 of 3", oily().why(2), -1);
        due.is("3 of 3", oily().why(3), 0);
        due.is("4 of 3", oily().why(4), -5);
        due.is("13 of 12", Twins.full().why(13), -5);
        due.is("the least int", oily().why(MIN), -5);
        due.is("the greatest int", oily().why(MAX), -5);
    }

    static void promise22TheFirstOfSeveralAndTheLast() {
        // Without the handful, the pour or the act it would hold.
        ThreadsAndSplits x = pot("melt 0;split (4<sour)*100;thread 0;", 0, 0, 0, 2, 4, 0, 1, 4, 8, 0, 0, 0);
        x.cheese(5, 10, 0, 20, 0);
        due.is("the first is the second act", x.why(4), 1);
        // A second handful: without one of both it would not.
        ThreadsAndSplits y = pot("melt 0;split (4<sour)*100;thread 0;", 2, 4, 0, 2, 4, 0, 1, 4, 8, 1, 4, 8, 0, 0, 0);
        y.cheese(5, 10, 0, 20, 0);
        due.is("the last", y.why(5), 4);
    }

    static void promise22NoneAlone() {
        ThreadsAndSplits x = pot("melt 0;split 100;thread 0;", 2, 4, 0, 2, 4, 0, 0, 0, 0, 0, 0, 0);
        x.cheese(5, 10, 0, 20, 0);
        due.is("none", x.why(4), -1);
        due.is("the act", x.why(3), 2);
    }

    static void promise23WhatIs0Or1() {
        due.is("-1", oily().order(-1), -2);
        due.is("0", oily().order(0), 1);
        due.is("1", oily().order(1), 0);
        due.is("2", oily().order(2), -2);
        due.is("the least int", oily().order(MIN), -2);
        due.is("the greatest int", oily().order(MAX), -2);
    }

    static void promise23BadIsToldAheadOfNone() {
        due.is("no acts", new ThreadsAndSplits().order(2), -2);
        due.is("no acts", new ThreadsAndSplits().order(-1), -2);
    }

    static void promise23NoTwoActs() {
        due.is("none", new ThreadsAndSplits().order(0), -1);
        due.is("none: oil", new ThreadsAndSplits().order(1), 0);
        ThreadsAndSplits x = pot("melt 0;split 100;thread 0;", 2, 4, 0);
        x.cheese(5, 10, 0, 20, 0);
        due.is("one", x.order(0), -1);
        due.is("one: oil", x.order(1), 0);
    }

    static void promise23LikeOilIsNotLess() {
        // Whatever two are exchanged, the last act lets 20 rise.
        ThreadsAndSplits x = pot("melt 0;split 100;thread 0;", 1, 0, 0, 2, 4, 0, 1, 0, 0, 1, 0, 0, 0, 0, 0, 1, 0, 0);
        x.cheese(5, 10, 0, 20, 0);
        due.is("none", x.order(0), -1);
        due.is("as it is", x.order(1), 20);
    }

    static void promise23TheFirstTwoAndTheLastTwo() {
        // The handful behind the act: it may not rise.
        ThreadsAndSplits x = pot("melt 0;split 100;thread 0;", 2, 4, 0, 0, 0, 0);
        x.cheese(5, 10, 0, 20, 0);
        due.is("the only two", x.order(0), 0);
        due.is("none", x.order(1), 0);
        ThreadsAndSplits y = pot("melt 0;split 100;thread 0;", 1, 0, 0, 1, 0, 0, 1, 0, 0, 1, 0, 0, 1, 0, 0, 1, 0, 0,
            1, 0, 0, 1, 0, 0, 1, 0, 0, 1, 0, 0, 2, 4, 0, 0, 0, 0);
        y.cheese(5, 10, 0, 20, 0);
        due.is("the last two of twelve", y.order(0), 10);
        due.is("none", y.order(1), 0);
    }

    static void promise23OfLikeExchangesTheFirst() {
        // Sour, then not stirred, stroked, not stirred: 20, 15, 27. Two acts on end, or two strokes: 25 both ways.
        ThreadsAndSplits x = pot("melt 100;split (4<sour)*100;thread 50;", 2, 4, 0, 1, 4, 8, 3, 1, 0, 0, 0, 0, 3, 1, 0,
            0, 0, 0);
        x.cheese(5, 10, 0, 20, 0);
        due.is("oil", x.pot(6, 4), 27);
        due.is("the first", x.order(0), 2);
        due.is("how much", x.order(1), 25);
    }

    // ---- promise 24

    static void promise24NIsFrom0ToHowManyActsThereAre() {
        due.is("-1 of none", new ThreadsAndSplits().strokes(-1, 1), -5);
        due.is("0 of none", new ThreadsAndSplits().strokes(0, 1), 0);
        due.is("1 of none", new ThreadsAndSplits().strokes(1, 1), -5);
        due.is("3 of 3", oily().strokes(3, 1), 4);
        due.is("4 of 3", oily().strokes(4, 1), -5);
        due.is("the least int", oily().strokes(MIN, 1), -5);
        due.is("the greatest int", oily().strokes(MAX, 1), -5);
    }

    static void promise24StrengthIsFrom1To9() {
        due.is("-1", oily().strokes(3, -1), -7);
        due.is("0", oily().strokes(3, 0), -7);
        due.is("1", oily().strokes(3, 1), 4);
        due.is("9", oily().strokes(3, 9), 1);
        due.is("10", oily().strokes(3, 10), -7);
        due.is("the least int", oily().strokes(3, MIN), -7);
        due.is("the greatest int", oily().strokes(3, MAX), -7);
    }

    static void promise24NIsToldAheadOfStrength() {
        due.is("both", oily().strokes(4, 10), -5);
        due.is("both", oily().strokes(-1, 0), -5);
    }

    static void promise24StrengthIsToldAheadOfTheAnswer() {
        due.is("no oil", new ThreadsAndSplits().strokes(0, 0), -7);
        due.is("never", lastingOil(62).strokes(2, 10), -7);
    }

    /** So much OIL without FREE: strokes of strength 1 bring back 1. */
    private static ThreadsAndSplits lastingOil(int oil) {
        // Twice as much in DROPS, of which half rises.
        ThreadsAndSplits x = pot("melt 0;split 100;thread 0;", 2, 2, 0, 0, 0, 0);
        x.cheese(1, oil, 0, 0, 0);
        due.is("oil", x.pot(2, 4), oil);
        return x;
    }

    static void promise24SixtyTimesAtMost() {
        due.is("1", lastingOil(1).strokes(2, 1), 1);
        due.is("59", lastingOil(59).strokes(2, 1), 59);
        due.is("60", lastingOil(60).strokes(2, 1), 60);
        due.is("61", lastingOil(61).strokes(2, 1), -1);
        due.is("62", lastingOil(62).strokes(2, 1), -1);
        due.is("62 by 2", lastingOil(62).strokes(2, 2), 31);
        due.is("62 by 9", lastingOil(62).strokes(2, 9), 7);
    }

    static void promise24NotOnceIfThereIsNoOil() {
        due.is("no oil", oily().strokes(2, 9), 0);
        due.is("an empty pot", new ThreadsAndSplits().strokes(0, 9), 0);
    }

    static void promise24AMinuteIsBehindEach() {
        // HEAT 13, 9, then 6, 4: behind the second STROKES all TIED melts, so that each one more brings back 5.
        ThreadsAndSplits x = pot("melt (heat<6)*100;split (5<heat)*100;thread 0;", 2, 1, 0, 0, 0, 0);
        x.cheese(1, 24, 0, 99, 0);
        x.set(0, 0);
        due.is("oil", x.pot(2, 4), 12);
        due.is("1, 1, 5, 5", x.strokes(2, 1), 4);
        x.ripen(0, 1, 26);
        due.is("1, 1, 5, 5, 1", x.strokes(2, 1), 5);
    }

    static void promise24TheMinutesAreStirred() {
        // HELD that goes in them goes to DROPS.
        ThreadsAndSplits x = pot("melt 0;split 50;thread 0;", 2, 1, 0, 0, 0, 0);
        x.cheese(1, 8, 0, 0, 0);
        due.is("oil", x.pot(2, 4), 4);
        due.is("four", x.strokes(2, 1), 4);
    }

    static void promise24JustAllIsEnough() {
        // 20 by fives, tens, fifteens, twenties.
        int[] times = {4, 2, 2, 1, 1, 1, 1, 1, 1};
        for (int strength = 1; strength <= 9; strength++) {
            due.is("strength " + strength, oily().strokes(3, strength), times[strength - 1]);
        }
    }

    // ---- promise 25

    private static ThreadsAndSplits tasty(int... tastes) {
        ThreadsAndSplits x = new ThreadsAndSplits();
        for (int taste : tastes) {
            x.cheese(8, 30, 6, 20, taste);
        }
        return x;
    }

    static void promise25BothCheesesAreThere() {
        ThreadsAndSplits x = tasty(9, 15);
        due.is("-1", x.mix(-1, 100, 0), -5);
        due.is("-10", x.mix(-10, 100, 0), -5);
        due.is("0 and 0", x.mix(0, 100, 0), 0);
        due.is("0 and 1", x.mix(1, 100, 0), 0);
        due.is("0 and 2", x.mix(2, 100, 0), -5);
        due.is("1 and 0", x.mix(10, 100, 0), 1);
        due.is("1 and 1", x.mix(11, 100, 0), 0);
        due.is("1 and 2", x.mix(12, 100, 0), -5);
        due.is("2 and 0", x.mix(20, 100, 0), -5);
        due.is("of none", new ThreadsAndSplits().mix(0, 100, 0), -5);
        ThreadsAndSplits y = tasty(1, 2, 3, 4);
        due.is("3 and 3", y.mix(33, 100, 0), 0);
        due.is("3 and 4", y.mix(34, 100, 0), -5);
        due.is("4 and 3", y.mix(43, 100, 0), -5);
        due.is("10 and 0", y.mix(100, 100, 0), -5);
        due.is("the least int", y.mix(MIN, 100, 0), -5);
        due.is("the greatest int", y.mix(MAX, 100, 0), -5);
    }

    static void promise25HandfulsAreFrom1To20() {
        ThreadsAndSplits x = tasty(9, 15);
        due.is("0", x.mix(10, 0, 0), -7);
        due.is("0, 60 minutes", x.mix(10, 60, 0), -7);
        due.is("1", x.mix(10, 100, 0), 1);
        due.is("20", x.mix(10, 2000, 0), 20);
        due.is("20, how much", x.mix(10, 2000, 1), 300);
        due.is("21", x.mix(10, 2100, 0), -7);
        due.is("-1", x.mix(10, -100, 0), -7);
        due.is("the least int", x.mix(10, MIN, 0), -7);
        due.is("the greatest int", x.mix(10, MAX, 0), -7);
    }

    static void promise25MinutesAreFrom0To60() {
        ThreadsAndSplits x = tasty(9, 15);
        due.is("0", x.mix(10, 300, 0), 3);
        due.is("60", x.mix(10, 360, 0), 3);
        due.is("61", x.mix(10, 361, 0), -7);
        due.is("99", x.mix(10, 399, 0), -7);
        due.is("20 of 60", x.mix(10, 2060, 0), 20);
        due.is("20 of 61", x.mix(10, 2061, 0), -7);
        due.is("below 0", x.mix(10, -1, 0), -7);
        due.is("below 0", x.mix(10, -199, 0), -7);
    }

    static void promise25WhatIs0Or1() {
        ThreadsAndSplits x = tasty(9, 15);
        due.is("-1", x.mix(10, 100, -1), -7);
        due.is("0", x.mix(10, 100, 0), 1);
        due.is("1", x.mix(10, 100, 1), 15);
        due.is("2", x.mix(10, 100, 2), -7);
        due.is("the least int", x.mix(10, 100, MIN), -7);
        due.is("the greatest int", x.mix(10, 100, MAX), -7);
    }

    static void promise25CheesesAreToldAheadOfTheRest() {
        due.is("all", tasty(9, 15).mix(2, 0, 2), -5);
        due.is("all", new ThreadsAndSplits().mix(-1, -1, -1), -5);
    }

    static void promise25OfLikeOnesTheLeast() {
        due.is("of one cheese", tasty(9).mix(0, 2000, 0), 0);
        due.is("of two alike", tasty(9, 9).mix(10, 2000, 0), 0);
        due.is("without taste", tasty(0, 0).mix(10, 2000, 0), 0);
        due.is("without taste", tasty(0, 0).mix(10, 2000, 1), 0);
        due.is("a little less", tasty(8, 9).mix(10, 2000, 0), 20);
        due.is("a little more", tasty(9, 8).mix(10, 2000, 0), 0);
        due.is("the most of all", tasty(99, 99).mix(10, 2000, 1), 1980);
    }

    static void promise25WhateverActsThereAre() {
        ThreadsAndSplits x = Twins.full();
        due.is("0 and 1", x.mix(1, 1010, 0), 0);
        due.is("how much", x.mix(1, 1010, 1), 170);
    }

    // ---- promises 26 and 27

    static void promise26OfNoCheeseThereIsNone() {
        due.is("of none", new ThreadsAndSplits().week(0, 0), -5);
        ThreadsAndSplits x = tasty(1, 2, 3, 4);
        due.is("below", x.week(-1, 0), -5);
        due.is("the first", x.week(0, 0), 1);
        due.is("the fourth", x.week(3, 0), 1);
        due.is("the fifth", x.week(4, 0), -5);
        due.is("the least int", x.week(MIN, 0), -5);
        due.is("the greatest int", x.week(MAX, 0), -5);
    }

    static void promise26WhatIs0Or1() {
        ThreadsAndSplits x = tasty(1);
        due.is("-1", x.week(0, -1), -7);
        due.is("0", x.week(0, 0), 1);
        due.is("1", x.week(0, 1), 0);
        due.is("2", x.week(0, 2), -7);
        due.is("the least int", x.week(0, MIN), -7);
        due.is("the greatest int", x.week(0, MAX), -7);
    }

    static void promise26TheCheeseIsToldAheadOfWhat() {
        due.is("both", tasty(1).week(1, 2), -5);
        due.is("both", tasty(1).week(-1, -1), -5);
    }

    private static ThreadsAndSplits threading(String thread) {
        ThreadsAndSplits x = pot("melt 100;split 0;thread " + thread + ";", 2, 9, 0);
        x.cheese(99, 10, 0, 20, 0);
        return x;
    }

    static void promise26WeeksAreFrom1To60() {
        due.is("the more", threading("age").week(0, 0), 60);
        due.is("how long", threading("age").week(0, 1), 60);
        due.is("the less", threading("99-age").week(0, 0), 1);
        due.is("how long", threading("99-age").week(0, 1), 98);
        due.is("60 alone", threading("(age=60)*7").week(0, 0), 60);
        due.is("60 alone", threading("(age=60)*7").week(0, 1), 7);
        due.is("61 alone", threading("(age=61)*7").week(0, 0), 1);
        due.is("61 alone", threading("(age=61)*7").week(0, 1), 0);
        due.is("0 alone", threading("(age=0)*7").week(0, 1), 0);
    }

    static void promise26OfLikeOnesTheLeast() {
        due.is("all alike", threading("7").week(0, 0), 1);
        due.is("from 30 on", threading("(29<age)*7").week(0, 0), 30);
        due.is("at the bound", threading("age*100").week(0, 0), 10);
        due.is("at the bound", threading("age*100").week(0, 1), 999);
        due.is("none at all", threading("0-age").week(0, 0), 1);
        due.is("none at all", threading("0-age").week(0, 1), 0);
    }

    static void promise26ItStaysAsOldAsItWas() {
        ThreadsAndSplits x = threading("age");
        x.week(0, 0);
        due.is("99 yet", x.sortTold(0, 0), 99);
        due.is("99 yet", x.pot(1, 12), 99);
    }

    static void promise27OfNoCheeseThereIsNone() {
        due.is("of none", new ThreadsAndSplits().pace(0, 1), -5);
        ThreadsAndSplits x = melting("100", 10);
        due.is("below", x.pace(-1, 1), -5);
        due.is("the first", x.pace(0, 1), 1);
        due.is("the second", x.pace(1, 1), -5);
        x.cheese(5, 10, 0, 10, 0);
        x.cheese(5, 10, 0, 10, 0);
        x.cheese(5, 10, 0, 10, 0);
        due.is("the fourth", x.pace(3, 1), 1);
        due.is("the fifth", x.pace(4, 1), -5);
        due.is("the least int", x.pace(MIN, 1), -5);
        due.is("the greatest int", x.pace(MAX, 1), -5);
    }

    private static ThreadsAndSplits melting(String melt, int lime) {
        ThreadsAndSplits x = pot("melt " + melt + ";split 0;thread 0;");
        x.cheese(5, 10, 0, lime, 0);
        return x;
    }

    static void promise27AllAreFrom1To30() {
        ThreadsAndSplits x = melting("100", 10);
        due.is("-1", x.pace(0, -1), -7);
        due.is("0", x.pace(0, 0), -7);
        due.is("1", x.pace(0, 1), 1);
        due.is("30", x.pace(0, 30), 30);
        due.is("31", x.pace(0, 31), -7);
        due.is("the least int", x.pace(0, MIN), -7);
        due.is("the greatest int", x.pace(0, MAX), -7);
    }

    static void promise27TheCheeseIsToldAheadOfAll() {
        due.is("both", melting("100", 10).pace(1, 31), -5);
        due.is("both", melting("100", 10).pace(-1, 0), -5);
    }

    static void promise27TiedMayBeAsMuchAsFree() {
        due.is("5 and 5", melting("50", 10).pace(0, 1), 1);
        due.is("6 and 5", melting("50", 11).pace(0, 1), -1);
        due.is("11 and 11", melting("50", 11).pace(0, 2), 2);
        due.is("none at all", melting("0", 0).pace(0, 30), 30);
    }

    static void promise27NoneAtATime() {
        due.is("of 30", melting("0", 1).pace(0, 30), -1);
        due.is("of 1", melting("0", 1).pace(0, 1), -1);
        due.is("all refused ahead of that", melting("0", 1).pace(0, 31), -7);
    }

    static void promise27TheRestComesLast() {
        // Five at once stay at HEAT 26, four at 26, but the last one comes at 32, at which all melts.
        due.is("4 and 1", melting("(27<heat)*100", 10).pace(0, 5), 4);
        // Of six at once, 25, and 5 and 1: 26, 32; of two at a time: 28.
        due.is("5 and 1", melting("(27<heat)*100", 10).pace(0, 6), 5);
        due.is("2", melting("(27<heat)*100", 10).pace(0, 2), 2);
        due.is("3: 2 and 1", melting("(27<heat)*100", 10).pace(0, 3), 2);
        // Two at once melt by 75 of 100: 5 tied, 15 free. One more is tied: 15; two more would be too many.
        due.is("no more than the rest", melting("(heat=28)*75", 10).pace(0, 3), 2);
    }

    // ---- the table: promise 28

    /** One handful, flame 9: behind it HEAT is 48, at the table 68, 81, 90 ..: CRUST 1 more each MINUTE. */
    private static ThreadsAndSplits crusty() {
        ThreadsAndSplits x = pot(STILL, 2, 1, 0);
        x.cheese(5, 10, 0, 0, 0);
        x.set(0, 9);
        return x;
    }

    static void promise28MinutesAreFrom0To90() {
        due.is("-1", crusty().table(-1, 1, 0), -2);
        due.is("0", crusty().table(0, 1, 0), 0);
        due.is("1", crusty().table(1, 1, 0), 1);
        due.is("90", crusty().table(90, 1, 0), 90);
        due.is("91", crusty().table(91, 1, 0), -2);
        due.is("the least int", crusty().table(MIN, 1, 0), -2);
        due.is("the greatest int", crusty().table(MAX, 1, 0), -2);
    }

    static void promise28EveryIsFrom1To30() {
        due.is("-1", crusty().table(5, -1, 1), -2);
        due.is("0", crusty().table(5, 0, 1), -2);
        due.is("1", crusty().table(5, 1, 1), 0);
        due.is("30", crusty().table(5, 30, 1), 5);
        due.is("31", crusty().table(5, 31, 1), -2);
        due.is("the least int", crusty().table(5, MIN, 1), -2);
        due.is("the greatest int", crusty().table(5, MAX, 1), -2);
    }

    static void promise28WhatIsFrom0To3() {
        due.is("-1", crusty().table(5, 30, -1), -2);
        due.is("0", crusty().table(5, 30, 0), 5);
        due.is("1", crusty().table(5, 30, 1), 5);
        due.is("2", crusty().table(5, 30, 2), 0);
        due.is("3", crusty().table(5, 30, 3), 0);
        due.is("4", crusty().table(5, 30, 4), -2);
        due.is("the least int", crusty().table(5, 30, MIN), -2);
        due.is("the greatest int", crusty().table(5, 30, MAX), -2);
    }

    static void promise28OneDipsInEachMultiple() {
        // A dip takes 2 of CRUST, and its MINUTE adds none.
        due.is("29 of 30", crusty().table(29, 30, 1), 29);
        due.is("30 of 30", crusty().table(30, 30, 1), 27);
        due.is("31 of 30", crusty().table(31, 30, 1), 28);
        due.is("90 of 30", crusty().table(90, 30, 1), 81);
        due.is("1 of 2", crusty().table(1, 2, 1), 1);
        due.is("2 of 2", crusty().table(2, 2, 1), 0);
        due.is("3 of 2", crusty().table(3, 2, 1), 1);
        due.is("90 of 1", crusty().table(90, 1, 1), 0);
    }

    static void promise28NotAMinuteIfItDoesNotHoldAhead() {
        due.is("always dipping", oily().table(90, 1, 0), 0);
        due.is("no minute", oily().table(0, 1, 0), 0);
        due.is("oil of no minute", oily().table(0, 1, 3), 20);
    }

    static void promise28StrokesComeAheadOfTheMinute() {
        // OIL 20 of which strength 2 brings back 10: 10 in the end of a dip, 0 in the end of the second one.
        due.is("one dip", oily().table(1, 1, 3), 10);
        due.is("two dips", oily().table(2, 1, 3), 0);
        due.is("three dips", oily().table(3, 1, 3), 0);
    }

    static void promise28MinutesOnEndFromTheFirstOn() {
        // It splits in MINUTE wine less 26 behind the handful, unless one dips then.
        int[][] held = {{46, 90, 19}, {46, 20, 19}, {46, 19, 19}, {46, 18, 18}, {99, 72, 72}, {30, 90, 3}};
        for (int[] h : held) {
            due.is("wine " + h[0] + " for " + h[1], drying(h[0]).table(h[1], 30, 0), h[2]);
        }
    }

    static void promise28WhatComesBehindIsNotCounted() {
        // It splits in MINUTE 20 to OIL 10; a dip in MINUTE 22 brings all of it back, as FREE is 99: it holds again.
        ThreadsAndSplits x = pot("melt 100;split (water<30)*100;thread 0;", 2, 1, 0);
        x.cheese(1, 10, 0, 99, 0);
        x.set(1, 46);
        due.is("oil in MINUTE 21", x.table(21, 22, 3), 10);
        due.is("oil in MINUTE 22", x.table(22, 22, 3), 0);
        due.is("on end", x.table(22, 22, 0), 19);
        due.is("on end for 90", x.table(90, 22, 0), 19);
    }

    private static ThreadsAndSplits drying(int wine) {
        ThreadsAndSplits x = pot("melt 0;split (water<30)*100;thread 0;", 2, 1, 0);
        x.cheese(1, 10, 0, 0, 0);
        x.set(1, wine);
        return x;
    }

    static void promise28AnEmptyPotHolds() {
        due.is("on end", new ThreadsAndSplits().table(90, 30, 0), 90);
        due.is("crust", new ThreadsAndSplits().table(90, 30, 1), 0);
    }

    // ---- promises 29 and 30

    static void promise29MinutesAreFrom1To90() {
        due.is("-1", crusty().dips(-1, 999), -2);
        due.is("0", crusty().dips(0, 999), -2);
        due.is("1", crusty().dips(1, 999), 30);
        due.is("90", crusty().dips(90, 999), 30);
        due.is("91", crusty().dips(91, 999), -2);
        due.is("the least int", crusty().dips(MIN, 999), -2);
        due.is("the greatest int", crusty().dips(MAX, 999), -2);
    }

    static void promise29CrustIsFrom0To999() {
        due.is("-1", crusty().dips(10, -1), -2);
        due.is("0", crusty().dips(10, 0), 2);
        due.is("999", crusty().dips(10, 999), 30);
        due.is("1000", crusty().dips(10, 1000), -2);
        due.is("the least int", crusty().dips(10, MIN), -2);
        due.is("the greatest int", crusty().dips(10, MAX), -2);
    }

    static void promise29BadIsToldAheadOfNone() {
        due.is("minutes", oily().dips(91, 999), -2);
        due.is("crust", oily().dips(90, 1000), -2);
        due.is("none", oily().dips(90, 999), -1);
    }

    static void promise29CrustMayBeAsMuch() {
        // Without a dip 10, with one in the tenth MINUTE 7, in the ninth 7 and 1 more.
        due.is("11", crusty().dips(10, 11), 30);
        due.is("10", crusty().dips(10, 10), 30);
        due.is("9", crusty().dips(10, 9), 10);
        due.is("7", crusty().dips(10, 7), 10);
        // Dips in 5 and 10: 4, 2, 6, 4; in 4 and 8: 3, 1, 4, 2, 4; in 3, 6, 9: 2, 0, 2, 0, 2, 0, 1.
        due.is("6", crusty().dips(10, 6), 5);
        due.is("4", crusty().dips(10, 4), 5);
        due.is("3", crusty().dips(10, 3), 3);
        due.is("1", crusty().dips(10, 1), 3);
        due.is("0", crusty().dips(10, 0), 2);
    }

    static void promise29ItHoldsForAllOfThem() {
        // It splits in MINUTE 20, unless one dips then: all is in DROPS then, and splits in the next one.
        due.is("19", drying(46).dips(19, 999), 30);
        due.is("20", drying(46).dips(20, 999), 20);
        due.is("21", drying(46).dips(21, 999), 1);
        due.is("90", drying(46).dips(90, 999), 1);
    }

    /** All that a pot may hold, so that a pot for each try that lacks a part would tell. */
    private static ThreadsAndSplits laden(String when) {
        ThreadsAndSplits x = pot("melt 0;split (" + when + ")*100;thread 0;", 2, 3, 0, 4, 2, 0);
        x.cheese(40, 10, 0, 20, 0);
        return x;
    }

    static void promise29EachTryBeginsBehindAllActs() {
        String[] asItIs = {"not age=40", "not sour=3", "not starch<3", "not fat=30 and 30<heat", "water<5"};
        for (String when : asItIs) {
            due.is(when, laden(when).dips(5, 999), 30);
        }
        due.is("age 40", laden("age=40 and starch=2").dips(5, 999), 1);
        due.is("sour 3", laden("sour=3 and starch=2").dips(5, 999), 1);
        due.is("starch 2", laden("starch=2 and 35<heat").dips(5, 999), 1);
        due.is("fat 30", laden("fat=30 and 35<heat").dips(5, 999), 1);
    }

    static void promise29CrustOfTied() {
        // 50 and 49 of TIED, three MINUTES without a dip.
        for (int lime = 49; lime <= 50; lime++) {
            ThreadsAndSplits x = pot(STILL, 2, 1, 0);
            x.cheese(5, 10, 0, lime, 0);
            x.set(0, 9);
            due.is("lime " + lime, x.dips(3, lime == 50 ? 6 : 3), 30);
            due.is("lime " + lime, x.dips(3, lime == 50 ? 5 : 2), 3);
        }
    }

    static void promise30MinutesAreFrom1To90() {
        due.is("-1", crusty().wick(-1, 1), -2);
        due.is("0", crusty().wick(0, 1), -2);
        due.is("1", crusty().wick(1, 1), 9);
        due.is("90", crusty().wick(90, 1), 9);
        due.is("91", crusty().wick(91, 1), -2);
        due.is("the least int", crusty().wick(MIN, 1), -2);
        due.is("the greatest int", crusty().wick(MAX, 1), -2);
    }

    static void promise30EveryIsFrom1To30() {
        due.is("-1", crusty().wick(1, -1), -2);
        due.is("0", crusty().wick(1, 0), -2);
        due.is("1", crusty().wick(1, 1), 9);
        due.is("30", crusty().wick(1, 30), 9);
        due.is("31", crusty().wick(1, 31), -2);
        due.is("the least int", crusty().wick(1, MIN), -2);
        due.is("the greatest int", crusty().wick(1, MAX), -2);
    }

    /** HEAT 28 behind the handful; in the first MINUTE at the table 19 by flame 0, 54 by flame 9. */
    private static ThreadsAndSplits warm(String when) {
        ThreadsAndSplits x = pot("melt 0;split (" + when + ")*100;thread 0;", 2, 1, 0);
        x.cheese(5, 10, 0, 0, 0);
        return x;
    }

    static void promise30OfLikeOnesTheGreatest() {
        due.is("all", warm("0").wick(90, 30), 9);
        due.is("none", warm("not heat=28").wick(90, 30), 9);
        due.is("an empty pot", new ThreadsAndSplits().wick(90, 30), 9);
        due.is("not ahead", oily().wick(90, 1), 9);
    }

    static void promise30FromFlame0On() {
        // 28 becomes 19 by flame 0, 23 by flame 1.
        due.is("0 alone", warm("19<heat and not heat=28").wick(1, 30), 0);
        due.is("0 and 1", warm("23<heat and not heat=28").wick(1, 30), 1);
        due.is("all but 9", warm("53<heat").wick(1, 30), 8);
        due.is("all", warm("54<heat").wick(1, 30), 9);
    }

    static void promise30ForMostMinutesNotForAll() {
        // Flame 4: 34, 38, 41; flame 9: 54 at once. Below 41 it holds: for ever by 3, for two MINUTES by 4.
        due.is("for one", warm("40<heat").wick(1, 30), 5);
        due.is("for two", warm("40<heat").wick(2, 30), 4);
        due.is("for three", warm("40<heat").wick(3, 30), 3);
        due.is("for 90", warm("40<heat").wick(90, 30), 3);
    }

    static void promise30EachTryBeginsBehindAllActs() {
        due.is("age", laden("not age=40").wick(5, 30), 9);
        due.is("sour", laden("not sour=3").wick(5, 30), 9);
        due.is("starch and hot", laden("starch=2 and 35<heat").wick(5, 30), 3);
        due.is("age and hot", laden("age=40 and 35<heat").wick(5, 30), 3);
        due.is("sour and hot", laden("sour=3 and 35<heat").wick(5, 30), 3);
        due.is("fat and hot", laden("fat=30 and 35<heat").wick(5, 30), 3);
    }

    static void promise30TheFlameToldStays() {
        ThreadsAndSplits x = warm("40<heat");
        x.wick(90, 30);
        due.is("told", x.count(0), 4);
        due.is("the pot", x.pot(1, 8), 28);
    }

    public static void main(String[] args) {
        Named.run(BoundariesOfSavingTest.class, due, 16, 17, 18, 19, 20, 21, 22, 23, 24, 25, 26, 27, 28, 29, 30);
    }
}
