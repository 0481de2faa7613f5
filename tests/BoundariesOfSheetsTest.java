/** Promises 31 to 43, the edges alone: tests of pots, flames that flicker, images, sheets, what is taken for what. */
public final class BoundariesOfSheetsTest {
    private static final int MIN = Integer.MIN_VALUE, MAX = Integer.MAX_VALUE;
    private static final long NO = -4611686018427387904L;
    private static final long ALL_WEEKS = (1L << 61) - 2;
    private static final int OIL = 4, HEAT = 8, SORT = 13;
    private static final Due due = new Due();

    /** Of SORTS 2, 3 and 3, OIL 0, 9 and 13. */
    private static ThreadsAndSplits splitting() {
        ThreadsAndSplits x = Make.under("melt 0;split 100;thread 0;");
        x.cheese(10, 18, 0, 1, 0);
        x.set(0, 0);
        x.set(1, 5);
        Make.acts(x, 2, 1, 0, 0, 0, 0, 0, 0, 0);
        int[] oils = {0, 9, 13};
        int[] sorts = {2, 3, 3};
        for (int a = 0; a < 3; a++) {
            due.is("oil", x.pot(a + 1, OIL), oils[a]);
            due.is("sort", x.pot(a + 1, SORT), sorts[a]);
        }
        return x;
    }

    private interface Asked {
        long of(ThreadsAndSplits x, int sheet);
    }

    /** What judge() refuses, and what is answered then by calls that refuse the same. */
    private static void refusesAsJudge(Asked asked, long bad, long missing) {
        for (int s : new int[] {-1, 4, MIN, MAX}) {
            due.is("sheet " + s, asked.of(splitting(), s), bad);
        }
        for (int s = 0; s < 4; s++) {
            due.is("missing " + s, asked.of(splitting(), s), missing);
            ThreadsAndSplits x = splitting();
            x.sheet(s, 2, 2);
            due.is("one too few " + s, asked.of(x, s), bad);
            x.sheet(s, 2, 4);
            due.is("one too many " + s, asked.of(x, s), bad);
            x.sheet(s, 2, 0);
            due.is("empty " + s, asked.of(x, s), bad);
            x.sheet(s, 2, 40);
            due.is("forty " + s, asked.of(x, s), bad);
            x.sheet(s, -1, 3);
            due.is("missing again " + s, asked.of(x, s), missing);
        }
    }

    // ---- promise 31

    static void promise31ItsRefusals() {
        refusesAsJudge((x, s) -> x.judge(s), -2, -11);
    }

    static void promise31NoActsAndNoNumbers() {
        for (int sort = 0; sort < 3; sort++) {
            ThreadsAndSplits x = new ThreadsAndSplits();
            x.sheet(0, sort, 0);
            due.is("none is another one", x.judge(0), -1);
            x.sheet(0, sort, 1);
            due.is("one too many", x.judge(0), -2);
        }
    }

    static void promise31TheFirstActTheLastAndNone() {
        for (int s = 0; s < 4; s++) {
            for (int sort = 0; sort < 3; sort++) {
                ThreadsAndSplits x = splitting();
                Make.put(x, s, sort, 2, 3, 3);
                due.is("none", x.judge(s), -1);
                x.cell(s, 2, 4);
                due.is("the last", x.judge(s), 2);
                x.cell(s, 1, 2);
                due.is("the second", x.judge(s), 1);
                x.cell(s, 0, 0);
                due.is("the first", x.judge(s), 0);
            }
        }
    }

    static void promise31TwelveActs() {
        ThreadsAndSplits x = Twins.full();
        x.sheet(3, 2, 12);
        for (int a = 0; a < 12; a++) {
            x.cell(3, a, x.pot(a + 1, SORT));
        }
        due.is("none", x.judge(3), -1);
        x.cell(3, 11, 6);
        due.is("the twelfth", x.judge(3), 11);
    }

    static void promise31ANumberThatIsNoSortIsAnotherOne() {
        for (int none : new int[] {-1, 6, MIN, MAX}) {
            ThreadsAndSplits x = splitting();
            Make.put(x, 0, 2, 2, none, 3);
            due.is("number " + none, x.judge(0), 1);
        }
    }

    static void promise31OfBytesAndShortsTheLowestBitsCount() {
        ThreadsAndSplits x = splitting();
        Make.put(x, 0, 0, 256 + 2, 512 + 3, 3 - 256);
        due.is("bytes", x.judge(0), -1);
        Make.put(x, 0, 1, 65536 + 2, 131072 + 3, 3 - 65536);
        due.is("shorts", x.judge(0), -1);
        Make.put(x, 0, 1, 2, 256 + 3, 3);
        due.is("a short is no byte", x.judge(0), 1);
        Make.put(x, 0, 2, 2, 65536 + 3, 3);
        due.is("an int is no short", x.judge(0), 1);
    }

    // ---- promise 32

    static void promise32SheetsAreFrom0To3() {
        due.is("-1", splitting().film(-1), -2);
        due.is("0", splitting().film(0), 3);
        due.is("3", splitting().film(3), 3);
        due.is("4", splitting().film(4), -2);
        due.is("the least int", splitting().film(MIN), -2);
        due.is("the greatest int", splitting().film(MAX), -2);
    }

    static void promise32OfNoActsItIsEmpty() {
        ThreadsAndSplits x = new ThreadsAndSplits();
        due.is("how many", x.film(0), 0);
        due.is("it is there", x.cell(0, 0, 0), -12);
        due.is("ints", x.copy(0, 0, 0, 0, 0), 0);
        due.is("as it is", x.which(0), 1);
    }

    static void promise32OfTwelveActsItHasTwelve() {
        ThreadsAndSplits x = Twins.full();
        due.is("how many", x.film(0), 12);
        due.is("the twelfth", x.cell(0, 11, 0), 1);
        due.is("no thirteenth", x.cell(0, 12, 0), -12);
    }

    static void promise32AMissingOneOneOfAnotherSortAndALongerOneBecomeIt() {
        ThreadsAndSplits x = splitting();
        due.is("missing", x.film(0), 3);
        x.sheet(1, 0, 3);
        due.is("of bytes", x.film(1), 3);
        Make.put(x, 2, 2, 7, 7, 7, 7, 7);
        due.is("longer", x.film(2), 3);
        for (int s = 0; s < 3; s++) {
            due.is("as the pot is", x.which(s) & 2, 2);
            due.is("three", x.cell(s, 3, 0), -12);
            due.is("ints", x.copy(s, 0, 0, 0, 3), 3);
        }
    }

    static void promise32ItHoldsMoreThanABit() {
        ThreadsAndSplits x = Make.under("melt 0;split 100;thread 0;");
        x.cheese(1, 99, 0, 0, 0);
        Make.acts(x, 2, 9, 0, 0, 0, 0);
        due.is("oil", x.pot(2, OIL), 445);
        x.film(0);
        x.sheet(1, 2, 2);
        x.cell(1, 1, 445);
        due.is("all of it", x.which(1), 2);
        due.is("the same", x.which(0), 2);
        x.cell(1, 1, 445 - 256);
        due.is("not the lowest bits alone", x.which(1), 0);
    }

    // ---- promise 33

    static void promise33ItsRefusals() {
        refusesAsJudge((x, s) -> x.ages(0, s), NO, NO);
    }

    static void promise33OfNoCheeseThereIsNone() {
        ThreadsAndSplits x = splitting();
        x.film(0);
        due.is("-1", x.ages(-1, 0), NO);
        due.is("0", x.ages(0, 0), ALL_WEEKS);
        due.is("1", x.ages(1, 0), NO);
        due.is("the least int", x.ages(MIN, 0), NO);
        due.is("the greatest int", x.ages(MAX, 0), NO);
        for (int s = 1; s < 4; s++) {
            x.cheese(1, 1, 1, 1, 1);
        }
        due.is("3", x.ages(3, 0), ALL_WEEKS);
        due.is("4", x.ages(4, 0), NO);
    }

    static void promise33BitsFrom1To60() {
        String[] when = {"age=1", "age=60", "age=61", "age<1", "0<age", "59<age", "age<2"};
        long[] bits = {1L << 1, 1L << 60, 0, 0, ALL_WEEKS, 1L << 60, 1L << 1};
        for (int i = 0; i < when.length; i++) {
            ThreadsAndSplits x = Make.under("melt 0;split (" + when[i] + ")*100;thread 0;");
            x.cheese(99, 10, 0, 0, 0);
            Make.acts(x, 2, 1, 0, 0, 0, 0);
            Make.put(x, 0, 2, 0, 5);
            due.is(when[i], x.ages(0, 0), bits[i]);
            due.is("it stays as old", x.sortTold(0, 0), 99);
        }
    }

    static void promise33WithoutActsAllWeeks() {
        ThreadsAndSplits x = new ThreadsAndSplits();
        x.cheese(5, 5, 5, 5, 5);
        x.sheet(0, 0, 0);
        due.is("all", x.ages(0, 0), ALL_WEEKS);
    }

    // ---- promise 34

    static void promise34ItsRefusals() {
        refusesAsJudge((x, s) -> x.which(s), -2, -11);
    }

    static void promise34OneTextAndSix() {
        ThreadsAndSplits x = new ThreadsAndSplits();
        x.sheet(0, 0, 0);
        due.is("one", x.which(0), 1);
        ThreadsAndSplits y = new ThreadsAndSplits();
        for (int t = 1; t < 6; t++) {
            Make.read(y, "melt 0;split " + 20 * t + ";thread 0;");
        }
        y.cheese(1, 50, 0, 0, 0);
        // Half of HELD in DROPS, and so on: by text t a part of 20, 40 .. 100.
        Make.acts(y, 2, 1, 0, 0, 0, 0);
        int[] oils = {0, 13, 22, 27, 28, 25};
        y.sheet(0, 2, 2);
        for (int t = 0; t < 6; t++) {
            y.force(t);
            due.is("oil of text " + t, y.pot(2, OIL), oils[t]);
            y.force(0);
            y.cell(0, 1, oils[t]);
            due.is("text " + t, y.which(0), 1 << t);
        }
        y.cell(0, 1, 1);
        due.is("none", y.which(0), 0);
        y.forget();
        y.forget();
        y.sheet(0, 2, 0);
        due.is("all", y.which(0), 63);
        due.is("the law stays", y.count(6), 0);
    }

    static void promise34AlsoTheFirstActCountsAndTheLast() {
        ThreadsAndSplits x = splitting();
        Make.put(x, 0, 2, 0, 9, 13);
        due.is("all", x.which(0), 2);
        Make.put(x, 0, 2, 1, 9, 13);
        due.is("the first", x.which(0), 0);
        Make.put(x, 0, 2, 0, 9, 12);
        due.is("the last", x.which(0), 0);
    }

    static void promise34BytesAndShortsAreSigned() {
        ThreadsAndSplits x = Make.under("melt 0;split 100;thread 0;");
        x.cheese(1, 99, 0, 0, 0);
        int[][] oils = {{2, 99}, {3, 148}};
        for (int[] o : oils) {
            Make.acts(x, 2, o[0], 0, 0, 0, 0);
            due.is("oil", x.pot(2, OIL), o[1]);
            Make.put(x, 0, 0, 0, o[1]);
            due.is("as a byte", x.which(0), o[1] <= 127 ? 2 : 0);
            Make.put(x, 0, 1, 0, o[1]);
            due.is("as a short", x.which(0), 2);
            x.forget();
            x.forget();
        }
    }

    // ---- promise 35

    static void promise35NIsFrom0ToHowManyActsThereAre() {
        due.is("-1 of none", new ThreadsAndSplits().drawn(-1, 0, 0), -5);
        due.is("0 of none", new ThreadsAndSplits().drawn(0, 0, HEAT), 20);
        due.is("1 of none", new ThreadsAndSplits().drawn(1, 0, 0), -5);
        due.is("12 of 12", Twins.full().drawn(12, 0, 9) > 0 ? 1 : 0, 1);
        due.is("13 of 12", Twins.full().drawn(13, 0, 0), -5);
        due.is("the least int", splitting().drawn(MIN, 0, 0), -5);
        due.is("the greatest int", splitting().drawn(MAX, 0, 0), -5);
    }

    static void promise35SeedIsFrom0To99999() {
        ThreadsAndSplits x = new ThreadsAndSplits();
        x.act(0, 0, 0);
        // 1 times 48271 modulo 9 is 4, and 100000 times 48271 modulo 2147483647 is 532132706, modulo 9 it is 2.
        due.is("-1", x.drawn(1, -1, HEAT), -7);
        due.is("0", x.drawn(1, 0, HEAT), 29);
        due.is("99999", x.drawn(1, 99999, HEAT), 27);
        due.is("100000", x.drawn(1, 100000, HEAT), -7);
        due.is("the least int", x.drawn(1, MIN, HEAT), -7);
        due.is("the greatest int", x.drawn(1, MAX, HEAT), -7);
    }

    static void promise35WhatIsFrom0To13() {
        ThreadsAndSplits x = new ThreadsAndSplits();
        due.is("-1", x.drawn(0, 0, -1), -7);
        due.is("0", x.drawn(0, 0, 0), 0);
        due.is("13", x.drawn(0, 0, 13), 0);
        due.is("14", x.drawn(0, 0, 14), -7);
        due.is("the least int", x.drawn(0, 0, MIN), -7);
        due.is("the greatest int", x.drawn(0, 0, MAX), -7);
    }

    static void promise35NIsToldAheadOfTheRest() {
        due.is("all", new ThreadsAndSplits().drawn(1, -1, 14), -5);
        due.is("all", new ThreadsAndSplits().drawn(-1, 100000, -1), -5);
    }

    /** HEAT behind so many MINUTES by a flame, each with its lot, between its bounds; a pour of 8 ahead of the last. */
    private static int flickered(int seed, int flame, int minutes, boolean poured) {
        long lot = seed + 1;
        int heat = 20;
        for (int m = 1; m <= minutes; m++) {
            if (poured && m == minutes) {
                heat = Math.max(0, heat - 4);
            }
            lot = lot * 48271L % 2147483647L;
            heat += (12 * flame - heat) / 3 + (int) (lot % 9) - 4;
            heat = Math.max(0, Math.min(120, heat));
        }
        return heat;
    }

    static void promise35HeatIsFrom0To120ElseTheBound() {
        int lowest = 0;
        int above = 0;
        for (int flame : new int[] {0, 1, 9}) {
            for (int seed = 0; seed < 60; seed++) {
                ThreadsAndSplits x = new ThreadsAndSplits();
                x.set(0, flame);
                Make.acts(x, 0, 9, 0, 0, 9, 0);
                for (int n = 1; n <= 2; n++) {
                    int heat = flickered(seed, flame, 10 * n, false);
                    due.is("seed " + seed + ", flame " + flame, x.drawn(n, seed, HEAT), heat);
                    lowest += heat == 0 ? 1 : 0;
                    above += heat > 108 ? 1 : 0;
                }
            }
        }
        due.is("some at 0", lowest > 0 ? 1 : 0, 1);
        due.is("some above what a flame gives", above > 0 ? 1 : 0, 1);
    }

    static void promise35HeatReaches120() {
        // By seed 21583 and flame 9 HEAT is 120 behind twenty MINUTES; no lot brings it above that.
        ThreadsAndSplits x = new ThreadsAndSplits();
        x.set(0, 9);
        Make.acts(x, 0, 9, 0, 0, 9, 0);
        due.is("by hand", flickered(21583, 9, 20, false), 120);
        due.is("drawn", x.drawn(2, 21583, HEAT), 120);
    }

    static void promise35APourTakesHeatNotBelow0() {
        int below = 0;
        for (int seed = 0; seed < 60; seed++) {
            ThreadsAndSplits x = new ThreadsAndSplits();
            x.set(0, 0);
            Make.acts(x, 0, 9, 0, 1, 8, 0);
            due.is("seed " + seed, x.drawn(2, seed, HEAT), flickered(seed, 0, 11, true));
            below += x.drawn(1, seed, HEAT) < 4 ? 1 : 0;
        }
        due.is("some would be below", below > 0 ? 1 : 0, 1);
    }

    static void promise35EachBeginsAnew() {
        ThreadsAndSplits x = new ThreadsAndSplits();
        x.act(0, 0, 0);
        due.is("once", x.drawn(1, 0, HEAT), 29);
        due.is("twice", x.drawn(1, 0, HEAT), 29);
        x.chance(5, 20, 0);
        due.is("behind others", x.drawn(1, 0, HEAT), 29);
        due.is("not drawn", x.pot(1, HEAT), 29);
        due.is("drawn by 99999", x.drawn(1, 99999, HEAT), 27);
        due.is("not drawn", x.pot(1, HEAT), 29);
    }

    // ---- promise 36

    static void promise36SeedIsFrom0To99999() {
        ThreadsAndSplits x = new ThreadsAndSplits();
        due.is("-1", x.chance(-1, 1, 0), NO);
        due.is("0", x.chance(0, 1, 0), 1);
        due.is("99999", x.chance(99999, 1, 0), 1);
        due.is("100000", x.chance(100000, 1, 0), NO);
        due.is("the least int", x.chance(MIN, 1, 0), NO);
        due.is("the greatest int", x.chance(MAX, 1, 0), NO);
    }

    static void promise36ManyAreFrom1To20() {
        ThreadsAndSplits x = new ThreadsAndSplits();
        due.is("-1", x.chance(0, -1, 0), NO);
        due.is("0", x.chance(0, 0, 0), NO);
        due.is("1", x.chance(0, 1, 0), 1);
        due.is("20", x.chance(0, 20, 0), 1);
        due.is("21", x.chance(0, 21, 0), NO);
        due.is("the least int", x.chance(0, MIN, 0), NO);
        due.is("the greatest int", x.chance(0, MAX, 0), NO);
    }

    static void promise36PartIs0Or1() {
        ThreadsAndSplits x = new ThreadsAndSplits();
        due.is("-1", x.chance(0, 1, -1), NO);
        due.is("0", x.chance(0, 1, 0), 1);
        due.is("1", x.chance(0, 1, 1), 1);
        due.is("2", x.chance(0, 1, 2), NO);
        due.is("the least int", x.chance(0, 1, MIN), NO);
        due.is("the greatest int", x.chance(0, 1, MAX), NO);
    }

    /** It holds by a seed, if HEAT is no more than so much in its one MINUTE that is not stirred. */
    private static ThreadsAndSplits flickering(int most) {
        ThreadsAndSplits x = Make.under("melt 0;split (" + most + "<heat)*100;thread 0;");
        x.cheese(5, 10, 0, 0, 0);
        Make.acts(x, 2, 1, 0, 0, 0, 0);
        return x;
    }

    private static void chance(int most, int seed, int many) {
        int held = 0;
        for (int i = 0; i < many; i++) {
            held += flickering(most).drawn(2, Math.min(99999, seed + i), SORT) == 0 ? 1 : 0;
        }
        int by = many;
        while (held % by != 0 || many % by != 0) {
            by--;
        }
        due.is(held + " of " + many + ", above", flickering(most).chance(seed, many, 0), held / by);
        due.is(held + " of " + many + ", below", flickering(most).chance(seed, many, 1), many / by);
    }

    static void promise36InLowestTerms() {
        for (int many = 1; many <= 20; many++) {
            chance(34, 0, many);
            chance(33, 777, many);
        }
    }

    static void promise36AllOrNone() {
        due.is("all, above", flickering(999).chance(0, 20, 0), 1);
        due.is("all, below", flickering(999).chance(0, 20, 1), 1);
        due.is("none, above", flickering(0).chance(0, 20, 0), 0);
        due.is("none, below", flickering(0).chance(0, 20, 1), 1);
    }

    static void promise36SeedsAre99999AtMost() {
        for (int most = 28; most <= 38; most++) {
            chance(most, 99999, 1);
            chance(most, 99998, 2);
            chance(most, 99998, 3);
            chance(most, 99990, 20);
            // All twenty are the last seed.
            long holds = flickering(most).drawn(2, 99999, SORT) == 0 ? 1 : 0;
            due.is("above", flickering(most).chance(99999, 20, 0), holds);
            due.is("below", flickering(most).chance(99999, 20, 1), 1);
        }
    }

    // ---- promises 37 and 38

    static void promise37FromNoCheeseToFour() {
        ThreadsAndSplits x = new ThreadsAndSplits();
        due.is("none", x.image(), 0);
        for (int i = 1; i <= 4; i++) {
            x.cheese(i, i, i, i, i);
            due.is("of " + i, x.image(), i);
        }
        due.is("a fifth is refused", x.cheese(5, 5, 5, 5, 5), -4);
        due.is("of 4 yet", x.image(), 4);
    }

    static void promise37ALaterOneTakesThePlaceOfTheOneAhead() {
        ThreadsAndSplits x = new ThreadsAndSplits();
        x.set(0, 1);
        x.image();
        x.set(0, 2);
        x.image();
        x.set(0, 3);
        x.back();
        due.is("the later one", x.count(0), 2);
    }

    static void promise38NoneIsState() {
        due.is("a new object", new ThreadsAndSplits().back(), -3);
        ThreadsAndSplits x = new ThreadsAndSplits();
        x.cheese(1, 1, 1, 1, 1);
        x.set(0, 9);
        due.is("without an image", x.back(), -3);
        due.is("nothing is changed", x.count(0), 9);
        due.is("nothing is changed", x.count(3), 1);
    }

    static void promise38OfAnImageWithoutCheesesThoseThatCameStay() {
        ThreadsAndSplits x = new ThreadsAndSplits();
        x.image();
        for (int i = 1; i <= 4; i++) {
            x.cheese(i, 10 + i, 20 + i, 30 + i, 40 + i);
        }
        x.set(0, 9);
        due.is("four", x.back(), 4);
        due.is("the flame", x.count(0), 4);
        for (int i = 1; i <= 4; i++) {
            for (int what = 1; what < 5; what++) {
                due.is("as it is", x.sortTold(i - 1, what), 10 * what + i);
            }
        }
    }

    static void promise38OfAFullImageAllFourComeBack() {
        ThreadsAndSplits x = new ThreadsAndSplits();
        for (int i = 1; i <= 4; i++) {
            x.cheese(i, 10 + i, 20 + i, 30 + i, 40 + i);
        }
        due.is("kept", x.image(), 4);
        for (int s = 0; s < 4; s++) {
            for (int what = 0; what < 5; what++) {
                x.ripen(s, what, 99);
            }
        }
        due.is("four", x.back(), 4);
        for (int i = 1; i <= 4; i++) {
            for (int what = 0; what < 5; what++) {
                due.is("as it was", x.sortTold(i - 1, what), 10 * what + i);
            }
        }
    }

    static void promise38TheFirstTextAndTheSixthComeBackAsTheLaw() {
        for (int law = 0; law < 6; law++) {
            ThreadsAndSplits x = Twins.full();
            x.force(law);
            x.image();
            x.force(5 - law);
            x.back();
            due.is("text " + law, x.count(6), law);
        }
    }

    static void promise38FlameWineAndSourComeBackFromTheirBounds() {
        int[] most = {9, 99, 9};
        for (int what = 0; what < 3; what++) {
            for (int v : new int[] {0, most[what]}) {
                ThreadsAndSplits x = new ThreadsAndSplits();
                x.set(what, v);
                x.image();
                x.set(what, 5);
                x.back();
                due.is("what " + what, x.count(what), v);
            }
        }
    }

    static void promise38ItMayBeTakenBackOftenAndIsNeverChanged() {
        ThreadsAndSplits x = new ThreadsAndSplits();
        x.cheese(7, 7, 7, 7, 7);
        x.image();
        for (int times = 0; times < 3; times++) {
            x.ripen(0, 0, 50 + times);
            due.is("one", x.back(), 1);
            due.is("as it was", x.sortTold(0, 0), 7);
        }
    }

    static void promise38ActsTextsTapeAndSheetsStay() {
        ThreadsAndSplits x = new ThreadsAndSplits();
        x.act(1, 1, 1);
        x.image();
        x.forget();
        Make.acts(x, 2, 2, 2, 3, 3, 3);
        Make.read(x, "melt 1;split 2;thread 3;");
        x.force(1);
        Make.feed(x, "melt");
        x.sheet(0, 1, 5);
        x.back();
        due.is("acts", x.count(4), 2);
        due.is("the first act", x.actTold(0, 0), 2);
        due.is("texts", x.count(5), 2);
        due.is("the law is as it was", x.count(6), 0);
        due.is("the tape", x.count(7), 4);
        due.is("the sheet", x.cell(0, 4, 1), 1);
    }

    // ---- promise 39

    static void promise39SheetsAreFrom0To3() {
        ThreadsAndSplits x = new ThreadsAndSplits();
        due.is("-1", x.sheet(-1, 0, 1), -2);
        due.is("0", x.sheet(0, 0, 1), 1);
        due.is("3", x.sheet(3, 0, 1), 1);
        due.is("4", x.sheet(4, 0, 1), -2);
        due.is("the least int", x.sheet(MIN, 0, 1), -2);
        due.is("the greatest int", x.sheet(MAX, 0, 1), -2);
    }

    static void promise39SortIsFromMinus1To2() {
        ThreadsAndSplits x = new ThreadsAndSplits();
        due.is("-2", x.sheet(0, -2, 1), -2);
        due.is("-1", x.sheet(0, -1, 1), 1);
        due.is("0", x.sheet(0, 0, 1), 1);
        due.is("2", x.sheet(0, 2, 1), 1);
        due.is("3", x.sheet(0, 3, 1), -2);
        due.is("the least int", x.sheet(0, MIN, 1), -2);
        due.is("the greatest int", x.sheet(0, MAX, 1), -2);
    }

    static void promise39NIsFrom0To40() {
        for (int sort = 0; sort < 3; sort++) {
            ThreadsAndSplits x = new ThreadsAndSplits();
            due.is("-1", x.sheet(0, sort, -1), -14);
            due.is("the least int", x.sheet(0, sort, MIN), -14);
            due.is("41", x.sheet(0, sort, 41), -2);
            due.is("the greatest int", x.sheet(0, sort, MAX), -2);
            due.is("it is missing yet", x.cell(0, 0, 0), -11);
            due.is("0", x.sheet(0, sort, 0), 1);
            due.is("it is empty", x.cell(0, 0, 0), -12);
            due.is("1", x.sheet(0, sort, 1), 1);
            due.is("its only one", x.cell(0, 0, 0), 1);
            due.is("no second one", x.cell(0, 1, 0), -12);
            due.is("40", x.sheet(0, sort, 40), 1);
            due.is("its last one", x.cell(0, 39, 0), 1);
            due.is("no one behind", x.cell(0, 40, 0), -12);
        }
    }

    static void promise39OfAMissingOneNDoesNotMatter() {
        for (int n : new int[] {MIN, -1, 0, 40, 41, MAX}) {
            ThreadsAndSplits x = new ThreadsAndSplits();
            due.is("missing already, n " + n, x.sheet(0, -1, n), 1);
            x.sheet(0, 2, 5);
            due.is("there, n " + n, x.sheet(0, -1, n), 1);
            due.is("missing", x.cell(0, 0, 0), -11);
        }
    }

    static void promise39BadIsToldAheadOfASizeBelow0() {
        ThreadsAndSplits x = new ThreadsAndSplits();
        due.is("sheet", x.sheet(4, 0, -1), -2);
        due.is("sort", x.sheet(0, 3, -1), -2);
        due.is("sort", x.sheet(0, -2, -1), -2);
    }

    static void promise39ARefusedOneStaysAsItIs() {
        ThreadsAndSplits x = new ThreadsAndSplits();
        Make.put(x, 0, 2, 4, 5, 6);
        due.is("n above", x.sheet(0, 1, 41), -2);
        due.is("n below", x.sheet(0, 1, -1), -14);
        due.is("sort", x.sheet(0, 3, 1), -2);
        due.is("ints yet, of three", x.actsBy(0, 2, 0, 1), 1);
        due.is("as they were", x.actTold(0, 0) * 100 + x.actTold(0, 1) * 10 + x.actTold(0, 2), 456);
    }

    static void promise39AllAre0Anew() {
        for (int sort = 0; sort < 3; sort++) {
            ThreadsAndSplits x = new ThreadsAndSplits();
            Make.put(x, 0, 2, 9, 9, 9, 9, 9, 9);
            x.sheet(0, sort, 2);
            x.sheet(0, sort, 6);
            due.is("two acts", x.actsBy(0, sort, 0, 2), 2);
            for (int a = 0; a < 2; a++) {
                for (int what = 0; what < 3; what++) {
                    due.is("all 0", x.actTold(a, what), 0);
                }
            }
        }
    }

    // ---- promise 40

    static void promise40SheetsAreFrom0To3AndMayBeMissing() {
        ThreadsAndSplits x = new ThreadsAndSplits();
        due.is("-1", x.cell(-1, 0, 1), -2);
        due.is("0, missing", x.cell(0, 0, 1), -11);
        due.is("3, missing", x.cell(3, 0, 1), -11);
        due.is("4", x.cell(4, 0, 1), -2);
        due.is("the least int", x.cell(MIN, 0, 1), -2);
        due.is("the greatest int", x.cell(MAX, 0, 1), -2);
    }

    static void promise40IIsFrom0ToTheLast() {
        for (int sort = 0; sort < 3; sort++) {
            ThreadsAndSplits x = new ThreadsAndSplits();
            x.sheet(2, sort, 3);
            due.is("-1", x.cell(2, -1, 1), -12);
            due.is("0", x.cell(2, 0, 1), 1);
            due.is("2", x.cell(2, 2, 1), 1);
            due.is("3", x.cell(2, 3, 1), -12);
            due.is("the least int", x.cell(2, MIN, 1), -12);
            due.is("the greatest int", x.cell(2, MAX, 1), -12);
        }
    }

    static void promise40RefusalsInTheirOrder() {
        ThreadsAndSplits x = new ThreadsAndSplits();
        due.is("no sheet, outside", x.cell(4, -1, 1), -2);
        due.is("missing, outside", x.cell(0, -1, 1), -11);
        x.sheet(0, 0, 0);
        due.is("outside", x.cell(0, 0, 1), -12);
    }

    /** What is kept of a number: SORTS of no act are 0, so that the sheet is told by making acts of it. */
    private static void keeps(int sort, int v, int kept) {
        ThreadsAndSplits x = new ThreadsAndSplits();
        Make.put(x, 0, sort, 0, v, 0);
        due.is("sort " + sort + " of " + v, x.actsBy(0, sort, 0, 1), kept >= 0 && kept <= 9 ? 1 : 0);
        if (kept >= 0 && kept <= 9) {
            due.is("sort " + sort + " of " + v, x.actTold(0, 1), kept);
        }
    }

    static void promise40OfBytesTheLowest8Bits() {
        int[][] kept = {{7, 7}, {256, 0}, {255, -1}, {257, 1}, {-1, -1}, {-255, 1}, {-256, 0}, {128, -128}, {127, 127},
            {0x7fffff05, 5}, {0x80000009, 9}, {MIN, 0}, {MAX, -1}, {65536 + 512 + 3, 3}};
        for (int[] k : kept) {
            keeps(0, k[0], k[1]);
        }
    }

    static void promise40OfShortsTheLowest16Bits() {
        int[][] kept = {{7, 7}, {256, 256}, {65536, 0}, {65535, -1}, {65537, 1}, {-1, -1}, {-65535, 1}, {-65536, 0},
            {0x7fff0005, 5}, {0x80000009, 9}, {MIN, 0}, {MAX, -1}};
        for (int[] k : kept) {
            keeps(1, k[0], k[1]);
        }
    }

    static void promise40OfIntsAllBits() {
        int[][] kept = {{7, 7}, {256, 256}, {65536, 65536}, {-1, -1}, {MIN, MIN}, {MAX, MAX}, {0x80000009, 0x80000009}};
        for (int[] k : kept) {
            keeps(2, k[0], k[1]);
        }
    }

    // ---- promise 41

    private static ThreadsAndSplits sheets() {
        ThreadsAndSplits x = new ThreadsAndSplits();
        Make.put(x, 0, 2, 1, 2, 3, 4, 5);
        Make.put(x, 1, 2, 9, 8, 7);
        x.sheet(2, 1, 5);
        return x;
    }

    static void promise41SheetsAreFrom0To3() {
        ThreadsAndSplits x = sheets();
        x.sheet(3, 2, 5);
        for (int s : new int[] {-1, 4, MIN, MAX}) {
            due.is("from", x.copy(s, 0, 0, 0, 1), -2);
            due.is("to", x.copy(0, 0, s, 0, 1), -2);
            due.is("both", x.copy(s, 0, s, 0, 1), -2);
        }
        due.is("from the first to the last", x.copy(0, 0, 3, 0, 5), 5);
        due.is("from the last to the first", x.copy(3, 0, 0, 0, 5), 5);
    }

    static void promise41RefusalsInTheirOrder() {
        ThreadsAndSplits x = sheets();
        due.is("no sheet ahead of missing", x.copy(4, -1, 3, 0, 1), -2);
        due.is("no sheet ahead of missing", x.copy(3, -1, 4, 0, 1), -2);
        due.is("missing ahead of unlike", x.copy(3, -1, 2, 0, 1), -11);
        due.is("missing ahead of unlike", x.copy(2, -1, 3, 0, 1), -11);
        due.is("both missing", x.copy(3, -1, 3, 0, 1), -11);
        due.is("unlike ahead of outside", x.copy(0, -1, 2, 0, 1), -13);
        due.is("unlike ahead of n below 0", x.copy(2, 0, 0, 0, -1), -13);
        due.is("outside", x.copy(0, -1, 1, 0, 1), -12);
    }

    static void promise41EachTwoSortsAreUnlike() {
        for (int sort = 0; sort < 3; sort++) {
            for (int other = 0; other < 3; other++) {
                ThreadsAndSplits x = new ThreadsAndSplits();
                x.sheet(0, sort, 1);
                x.sheet(1, other, 1);
                due.is(sort + " to " + other, x.copy(0, 0, 1, 0, 1), sort == other ? 1 : -13);
                due.is(sort + " to " + other + ", none", x.copy(0, 0, 1, 0, 0), sort == other ? 0 : -13);
            }
        }
    }

    static void promise41PlacesAndNInsideBoth() {
        // Five numbers there, three here.
        int[][] inside = {{0, 0, 3}, {2, 0, 3}, {4, 2, 1}, {0, 2, 1}, {5, 3, 0}, {0, 0, 0}, {5, 0, 0}, {0, 3, 0}};
        for (int[] p : inside) {
            due.is("inside", sheets().copy(0, p[0], 1, p[1], p[2]), p[2]);
        }
        int[][] outside = {{0, 0, 4}, {3, 0, 3}, {5, 0, 1}, {0, 3, 1}, {0, 1, 3}, {-1, 0, 1}, {0, -1, 1}, {0, 0, -1},
            {6, 0, 0}, {0, 4, 0}, {-1, 0, 0}, {0, -1, 0}, {-1, 0, -1}, {MIN, 0, 1}, {0, MIN, 1}, {0, 0, MIN},
            {MAX, 0, 1}, {0, MAX, 1}, {0, 0, MAX}, {MAX, MAX, MAX}, {MIN, MIN, MIN}, {1, 1, MAX}, {MAX, 0, MAX},
            {MIN, MIN, MAX}, {MIN, 0, MIN}};
        for (int[] p : outside) {
            due.is("outside", sheets().copy(0, p[0], 1, p[1], p[2]), -12);
        }
    }

    static void promise41AnEmptyOneTakesNone() {
        ThreadsAndSplits x = new ThreadsAndSplits();
        x.sheet(0, 0, 0);
        x.sheet(1, 0, 40);
        due.is("none of none", x.copy(0, 0, 0, 0, 0), 0);
        due.is("none of forty", x.copy(1, 40, 0, 0, 0), 0);
        due.is("one of none", x.copy(0, 0, 1, 0, 1), -12);
        due.is("one to none", x.copy(1, 0, 0, 0, 1), -12);
        due.is("all forty", x.copy(1, 0, 1, 0, 40), 40);
        due.is("forty-one", x.copy(1, 0, 1, 0, 41), -12);
    }

    /** Six numbers of the first sheet, told by acts, each from 0 to 5. */
    private static void tells(ThreadsAndSplits x, int... six) {
        due.is("two acts", x.actsBy(0, 2, 0, 2), 2);
        for (int i = 0; i < 6; i++) {
            due.is("number " + i, x.actTold(i / 3, i % 3), six[i]);
        }
    }

    private static ThreadsAndSplits six() {
        ThreadsAndSplits x = new ThreadsAndSplits();
        Make.put(x, 0, 2, 0, 1, 2, 3, 4, 5);
        return x;
    }

    static void promise41OntoItselfAsTheyWere() {
        ThreadsAndSplits up = six();
        due.is("up", up.copy(0, 0, 0, 1, 5), 5);
        tells(up, 0, 0, 1, 2, 3, 4);
        ThreadsAndSplits down = six();
        due.is("down", down.copy(0, 1, 0, 0, 5), 5);
        tells(down, 1, 2, 3, 4, 5, 5);
        ThreadsAndSplits same = six();
        due.is("in place", same.copy(0, 0, 0, 0, 6), 6);
        tells(same, 0, 1, 2, 3, 4, 5);
        ThreadsAndSplits one = six();
        due.is("the first to the last", one.copy(0, 0, 0, 5, 1), 1);
        tells(one, 0, 1, 2, 3, 4, 0);
    }

    static void promise41WhatIsCopiedStaysWhatIsBesideStays() {
        ThreadsAndSplits x = six();
        Make.put(x, 1, 2, 5, 5, 5, 5);
        due.is("two", x.copy(1, 1, 0, 2, 2), 2);
        tells(x, 0, 1, 5, 5, 4, 5);
        ThreadsAndSplits y = six();
        y.sheet(1, 2, 6);
        due.is("all", y.copy(0, 0, 1, 0, 6), 6);
        y.cell(1, 0, 5);
        tells(y, 0, 1, 2, 3, 4, 5);
    }

    // ---- promise 42

    private static ThreadsAndSplits forty(int sort) {
        ThreadsAndSplits x = new ThreadsAndSplits();
        x.sheet(0, sort, 40);
        return x;
    }

    static void promise42SheetsAreFrom0To3() {
        for (int s : new int[] {-1, 4, MIN, MAX}) {
            due.is("sheet " + s, forty(0).actsBy(s, 0, 0, 1), -2);
        }
        for (int s = 0; s < 4; s++) {
            ThreadsAndSplits x = new ThreadsAndSplits();
            x.sheet(s, 0, 3);
            due.is("sheet " + s, x.actsBy(s, 0, 0, 1), 1);
        }
    }

    static void promise42SortIsFrom0To2() {
        due.is("-1", forty(0).actsBy(0, -1, 0, 1), -2);
        due.is("0", forty(0).actsBy(0, 0, 0, 1), 1);
        due.is("2", forty(2).actsBy(0, 2, 0, 1), 1);
        due.is("3", forty(2).actsBy(0, 3, 0, 1), -2);
        due.is("the least int", forty(0).actsBy(0, MIN, 0, 1), -2);
        due.is("the greatest int", forty(0).actsBy(0, MAX, 0, 1), -2);
        due.is("-1 of a missing one", new ThreadsAndSplits().actsBy(0, -1, 0, 1), -2);
    }

    static void promise42NIsFrom0To12() {
        due.is("-1", forty(0).actsBy(0, 0, 0, -1), -2);
        due.is("0", forty(0).actsBy(0, 0, 0, 0), 0);
        due.is("12", forty(0).actsBy(0, 0, 0, 12), 12);
        due.is("13", forty(0).actsBy(0, 0, 0, 13), -2);
        due.is("the least int", forty(0).actsBy(0, 0, 0, MIN), -2);
        due.is("the greatest int", forty(0).actsBy(0, 0, 0, MAX), -2);
    }

    static void promise42EachTwoSortsAreUnlike() {
        for (int sort = 0; sort < 3; sort++) {
            for (int other = 0; other < 3; other++) {
                due.is(sort + " as " + other, forty(sort).actsBy(0, other, 0, 1), sort == other ? 1 : -13);
            }
        }
    }

    static void promise42RefusalsInTheirOrder() {
        ThreadsAndSplits x = forty(1);
        due.is("sheet ahead of all", x.actsBy(4, 0, -1, 1), -2);
        due.is("sort ahead of missing", x.actsBy(1, 3, -1, 1), -2);
        due.is("n ahead of missing", x.actsBy(1, 0, -1, 13), -2);
        due.is("missing ahead of outside", x.actsBy(1, 0, -1, 1), -11);
        due.is("n ahead of unlike", x.actsBy(0, 0, -1, 13), -2);
        due.is("unlike ahead of outside", x.actsBy(0, 0, -1, 1), -13);
        due.is("outside", x.actsBy(0, 1, -1, 1), -12);
        due.is("no act came", x.count(4), 0);
    }

    static void promise42PlacesInside() {
        due.is("-1", forty(0).actsBy(0, 0, -1, 1), -12);
        due.is("0", forty(0).actsBy(0, 0, 0, 1), 1);
        due.is("37", forty(0).actsBy(0, 0, 37, 1), 1);
        due.is("38", forty(0).actsBy(0, 0, 38, 1), -12);
        due.is("39", forty(0).actsBy(0, 0, 39, 1), -12);
        due.is("40", forty(0).actsBy(0, 0, 40, 1), -12);
        due.is("the least int", forty(0).actsBy(0, 0, MIN, 12), -12);
        due.is("the greatest int", forty(0).actsBy(0, 0, MAX, 12), -12);
        due.is("the greatest int but 2", forty(0).actsBy(0, 0, MAX - 2, 12), -12);
        due.is("4, twelve", forty(0).actsBy(0, 0, 4, 12), 12);
    }

    static void promise42WhatStoodAheadCame() {
        ThreadsAndSplits x = forty(0);
        due.is("eleven and one number", x.actsBy(0, 0, 6, 12), -12);
        due.is("eleven came", x.count(4), 11);
        ThreadsAndSplits y = new ThreadsAndSplits();
        for (int size = 0; size <= 6; size++) {
            y.sheet(0, 1, size);
            due.is("of " + size, y.actsBy(0, 1, 0, 2), size < 6 ? -12 : 2);
            due.is("came of " + size, y.count(4), size / 3);
            while (y.forget() > 0) {
                continue;
            }
        }
    }

    static void promise42OthersAreLeftOut() {
        int[][] bad = {{-1, 0, 0}, {6, 0, 0}, {0, -1, 0}, {0, 10, 0}, {0, 0, -1}, {0, 0, 10}, {MIN, 0, 0}, {0, MAX, 0}};
        for (int[] b : bad) {
            ThreadsAndSplits x = new ThreadsAndSplits();
            Make.put(x, 0, 2, 1, 1, 1, b[0], b[1], b[2], 5, 9, 9);
            due.is("two of three", x.actsBy(0, 2, 0, 3), 2);
            due.is("how many", x.count(4), 2);
            due.is("the first", x.actTold(0, 0), 1);
            due.is("the third", x.actTold(1, 0), 5);
            due.is("the third", x.actTold(1, 2), 9);
        }
    }

    static void promise42BehindTwelveAllAreLeftOut() {
        ThreadsAndSplits x = forty(0);
        for (int i = 0; i < 11; i++) {
            x.act(1, 1, 1);
        }
        due.is("one has room", x.actsBy(0, 0, 0, 3), 1);
        due.is("none has room", x.actsBy(0, 0, 0, 12), 0);
        due.is("outside is told all the same", x.actsBy(0, 0, 38, 1), -12);
        due.is("twelve", x.count(4), 12);
    }

    // ---- promise 43

    static void promise43KindIsFrom0To6() {
        ThreadsAndSplits x = Twins.full();
        due.is("-1", x.taken(0, -1), -2);
        due.is("0", x.taken(4, 0), 0);
        due.is("6", x.taken(0, 6), 12);
        due.is("7", x.taken(0, 7), -2);
        due.is("the least int", x.taken(0, MIN), -2);
        due.is("the greatest int", x.taken(0, MAX), -2);
    }

    static void promise43IIsFrom0To15() {
        ThreadsAndSplits x = Twins.full();
        due.is("-1", x.taken(-1, 6), -12);
        due.is("0", x.taken(0, 6), 12);
        due.is("3", x.taken(3, 6), 99);
        due.is("4", x.taken(4, 0), 0);
        due.is("15", x.taken(15, 0), 11);
        due.is("16", x.taken(16, 0), -12);
        due.is("the least int", x.taken(MIN, 0), -12);
        due.is("the greatest int", x.taken(MAX, 0), -12);
    }

    static void promise43NothingLiesThere() {
        ThreadsAndSplits x = new ThreadsAndSplits();
        for (int i = 0; i < 16; i++) {
            for (int kind = 0; kind < 7; kind++) {
                due.is("place " + i + " for " + kind, x.taken(i, kind), -11);
            }
        }
        x.cheese(7, 1, 1, 1, 1);
        x.act(0, 0, 0);
        due.is("a cheese", x.taken(0, 6), 7);
        due.is("no second one", x.taken(1, 6), -11);
        due.is("an act", x.taken(4, 0), 0);
        due.is("no second one", x.taken(5, 0), -11);
        x.forget();
        due.is("a forgotten one", x.taken(4, 0), -11);
    }

    static void promise43RefusalsInTheirOrder() {
        ThreadsAndSplits x = new ThreadsAndSplits();
        due.is("kind ahead of place", x.taken(16, 7), -2);
        due.is("kind ahead of place", x.taken(-1, -1), -2);
        due.is("kind ahead of nothing", x.taken(0, 7), -2);
        due.is("place", x.taken(16, 6), -12);
        due.is("nothing ahead of another kind", x.taken(0, 0), -11);
        due.is("nothing ahead of another kind", x.taken(4, 6), -11);
    }

    static void promise43OfAnotherKind() {
        ThreadsAndSplits x = new ThreadsAndSplits();
        x.cheese(7, 1, 1, 1, 1);
        int[] may = {0b000001, 0b000011, 0b000101, 0b001001, 0b010011, 0b101001};
        for (int kind = 0; kind < 6; kind++) {
            x.act(kind, 0, 0);
            due.is("an act is no cheese", x.taken(4 + kind, 6), -13);
            due.is("a cheese is no act", x.taken(0, kind), -13);
            for (int as = 0; as < 6; as++) {
                due.is(kind + " for " + as, x.taken(4 + kind, as), (may[kind] >> as & 1) == 1 ? kind : -13);
            }
        }
    }

    static void promise43WeeksAreAsTheyAreNow() {
        ThreadsAndSplits x = new ThreadsAndSplits();
        x.cheese(7, 1, 1, 1, 1);
        x.ripen(0, 0, 99);
        due.is("99", x.taken(0, 6), 99);
        x.ripen(0, 0, 1);
        due.is("1", x.taken(0, 6), 1);
    }

    public static void main(String[] args) {
        Named.run(BoundariesOfSheetsTest.class, due, 31, 32, 33, 34, 35, 36, 37, 38, 39, 40, 41, 42, 43);
    }
}
