/** Promises 13 to 15 and the terms behind them, the edges alone: minutes, acts, sorts of pots, what holds. */
public final class BoundariesOfThePotTest {
    private static final int MIN = Integer.MIN_VALUE, MAX = Integer.MAX_VALUE;
    private static final int TIED = 0, FREE = 1, HELD = 2, DROPS = 3, OIL = 4, WATER = 5, SOUR = 6, STARCH = 7,
        HEAT = 8, MINUTES = 9, CRUST = 10, THICK = 11, THREADS = 12, SORT = 13;
    private static final String STILL = "melt 0;split 0;thread 0;";
    private static final Due due = new Due();

    private static ThreadsAndSplits pot(String law, int... acts) {
        ThreadsAndSplits x = Make.under(law);
        Make.acts(x, acts);
        return x;
    }

    private static void is(ThreadsAndSplits x, int what, int want) {
        due.is("what " + what, x.pot(x.count(4), what), want);
    }

    // ---- what is asked

    static void promise13NIsFrom0ToHowManyActsThereAre() {
        ThreadsAndSplits none = new ThreadsAndSplits();
        due.is("-1 of none", none.pot(-1, 0), -5);
        due.is("0 of none", none.pot(0, HEAT), 20);
        due.is("1 of none", none.pot(1, 0), -5);
        ThreadsAndSplits x = Twins.full();
        due.is("-1 of 12", x.pot(-1, 0), -5);
        due.is("0 of 12", x.pot(0, MINUTES), 0);
        due.is("12 of 12", x.pot(12, SOUR) > 0 ? 1 : 0, 1);
        due.is("13 of 12", x.pot(13, 0), -5);
        due.is("the least int", x.pot(MIN, 0), -5);
        due.is("the greatest int", x.pot(MAX, 0), -5);
        x.forget();
        due.is("a forgotten one", x.pot(12, 0), -5);
    }

    static void promise13WhatIsFrom0To13() {
        ThreadsAndSplits x = new ThreadsAndSplits();
        due.is("-1", x.pot(0, -1), -7);
        due.is("0", x.pot(0, 0), 0);
        due.is("13", x.pot(0, 13), 0);
        due.is("14", x.pot(0, 14), -7);
        due.is("the least int", x.pot(0, MIN), -7);
        due.is("the greatest int", x.pot(0, MAX), -7);
    }

    static void promise13NIsToldAheadOfWhat() {
        due.is("both", new ThreadsAndSplits().pot(1, 14), -5);
        due.is("both", new ThreadsAndSplits().pot(-1, -1), -5);
    }

    static void promise13AnEmptyPot() {
        int[] empty = {0, 0, 0, 0, 0, 20, 3, 0, 20, 0, 0, 0, 0, 0};
        for (int what = 0; what < 14; what++) {
            due.is("what " + what, new ThreadsAndSplits().pot(0, what), empty[what]);
        }
    }

    // ---- handfuls

    static void promise13NoneIsOldIfThereIsNone() {
        // By how MUCH all WEEKS go, and there is none: nothing to divide by.
        ThreadsAndSplits x = pot("melt age;split age;thread age;", 0, 9, 0, 2, 9, 0);
        for (int what = 0; what < 5; what++) {
            is(x, what, 0);
        }
        is(x, THREADS, 0);
        is(x, SORT, 0);
    }

    static void promise13AgeIsCut() {
        ThreadsAndSplits x = pot("melt 100;split 0;thread age;");
        x.cheese(1, 0, 0, 9, 0);
        x.cheese(4, 0, 0, 9, 0);
        x.act(2, 1, 0);
        is(x, THREADS, 1);
        x.act(2, 1, 1);
        is(x, THREADS, 2);
        x.act(2, 1, 0);
        is(x, THREADS, 2);
    }

    static void promise13AgeOfTheLeastAndTheMostWeeks() {
        ThreadsAndSplits x = pot("melt 100;split 0;thread age;", 2, 9, 0);
        x.cheese(99, 0, 0, 9, 0);
        is(x, THREADS, 99);
        x.ripen(0, 0, 1);
        is(x, THREADS, 1);
    }

    static void promise13HandfulsTakeHeatNotBelow0() {
        // Flame 1: 20 less 9 is 11, becomes 11; less 9 is 2, becomes 5; less 9 stays at 0, becomes 4.
        ThreadsAndSplits x = pot(STILL);
        x.cheese(1, 0, 0, 0, 0);
        x.set(0, 1);
        int[] heats = {11, 5, 4};
        for (int heat : heats) {
            x.act(2, 9, 0);
            is(x, HEAT, heat);
        }
        // 5 less 5 is just 0.
        x.forget();
        x.act(2, 5, 0);
        is(x, HEAT, 4);
        // 5 less 4 is 1 yet, and becomes 4 as well; less 3 is 2, becomes 5.
        x.forget();
        x.act(2, 3, 0);
        is(x, HEAT, 5);
    }

    static void promise13NoHandfulIsNone() {
        ThreadsAndSplits x = pot(STILL, 2, 0, 0);
        x.cheese(50, 99, 99, 99, 99);
        is(x, HELD, 0);
        is(x, TIED, 0);
        is(x, WATER, 20);
        is(x, MINUTES, 1);
        is(x, SORT, 0);
    }

    static void promise13OfNoCheeseComesNoHandful() {
        ThreadsAndSplits x = pot(STILL, 2, 9, 1);
        x.cheese(50, 99, 99, 99, 99);
        is(x, HELD, 0);
        is(x, HEAT, 29);
        is(x, MINUTES, 1);
        x.cheese(50, 9, 0, 0, 0);
        is(x, HELD, 81);
        is(x, HEAT, 23);
        ThreadsAndSplits y = pot(STILL, 2, 9, 9);
        is(y, HELD, 0);
    }

    static void promise13TwelveTimesTheMostOfAll() {
        ThreadsAndSplits x = pot(STILL, 2, 9, 0, 2, 9, 0, 2, 9, 0, 2, 9, 0, 2, 9, 0, 2, 9, 0, 2, 9, 0, 2, 9, 0, 2, 9, 0,
            2, 9, 0, 2, 9, 0, 2, 9, 0);
        x.cheese(99, 99, 99, 99, 99);
        x.set(0, 0);
        x.set(1, 99);
        is(x, TIED, 10692);
        is(x, HELD, 10692);
        is(x, WATER, 10791);
        is(x, HEAT, 0);
    }

    // ---- a minute: heat

    static void promise13HeatFallsCutTowardZero() {
        ThreadsAndSplits x = new ThreadsAndSplits();
        x.set(0, 0);
        int[] heats = {14, 10, 7, 5, 4, 3, 2, 2, 2};
        for (int heat : heats) {
            x.act(1, 0, 0);
            is(x, HEAT, heat);
        }
    }

    static void promise13HeatRisesCutTowardZero() {
        ThreadsAndSplits x = new ThreadsAndSplits();
        int[] heats = {29, 35, 39, 42, 44, 45, 46, 46};
        for (int heat : heats) {
            x.act(1, 0, 0);
            is(x, HEAT, heat);
        }
    }

    static void promise13HeatOfTheGreatestFlame() {
        ThreadsAndSplits x = new ThreadsAndSplits();
        x.set(0, 9);
        int[] heats = {49, 68, 81, 90, 96, 100, 102, 104, 105, 106, 106};
        for (int heat : heats) {
            x.act(1, 0, 0);
            is(x, HEAT, heat);
        }
    }

    // ---- a minute: what melts, what goes

    private static int melted(String melt, int lime, int handfuls) {
        ThreadsAndSplits x = pot("melt " + melt + ";split 0;thread 0;", 2, handfuls, 0);
        x.cheese(1, 0, 0, lime, 0);
        due.is("none is lost", x.pot(1, TIED) + x.pot(1, FREE), lime * handfuls);
        return x.pot(1, FREE);
    }

    static void promise13MeltIsFrom0To100ElseTheBound() {
        due.is("far below", melted("-9999", 50, 2), 0);
        due.is("-1", melted("-1", 50, 2), 0);
        due.is("0", melted("0", 50, 2), 0);
        due.is("1", melted("1", 50, 2), 1);
        due.is("99", melted("99", 50, 2), 99);
        due.is("100", melted("100", 50, 2), 100);
        due.is("101", melted("101", 50, 2), 100);
        due.is("far above", melted("9999", 50, 2), 100);
        due.is("the least int", melted("4096*4096*128", 50, 2), 0);
        due.is("the greatest int", melted("4096*4096*128-1", 50, 2), 100);
    }

    static void promise13WhatMeltsIsCut() {
        due.is("a part of 99", melted("1", 99, 1), 0);
        due.is("a part of 100", melted("1", 50, 2), 1);
        due.is("99 parts of 1", melted("99", 1, 1), 0);
        due.is("all of 1", melted("100", 1, 1), 1);
        due.is("a half of 7", melted("50", 7, 1), 3);
        due.is("of none", melted("100", 0, 9), 0);
    }

    private static int gone(String split, int fat, int handfuls) {
        ThreadsAndSplits x = pot("melt 0;split " + split + ";thread 0;", 2, handfuls, 0);
        x.cheese(1, fat, 0, 0, 0);
        due.is("none is lost", x.pot(1, HELD) + x.pot(1, DROPS), fat * handfuls);
        return x.pot(1, DROPS);
    }

    static void promise13SplitIsFrom0To100ElseTheBound() {
        due.is("far below", gone("-9999", 50, 2), 0);
        due.is("-1", gone("-1", 50, 2), 0);
        due.is("0", gone("0", 50, 2), 0);
        due.is("1", gone("1", 50, 2), 1);
        due.is("99", gone("99", 50, 2), 99);
        due.is("100", gone("100", 50, 2), 100);
        due.is("101", gone("101", 50, 2), 100);
        due.is("far above", gone("9999", 50, 2), 100);
        due.is("the least int", gone("4096*4096*128", 50, 2), 0);
        due.is("the greatest int", gone("4096*4096*128-1", 50, 2), 100);
    }

    static void promise13WhatGoesIsCut() {
        due.is("a part of 99", gone("1", 99, 1), 0);
        due.is("a part of 100", gone("1", 50, 2), 1);
        due.is("99 parts of 1", gone("99", 1, 1), 0);
        due.is("all of 1", gone("100", 1, 1), 1);
        due.is("of none", gone("100", 0, 9), 0);
    }

    static void promise13HeatOfTheLawIsAsItHasBecomeInThatMinute() {
        // HEAT 20 less 1 becomes 28 in the first MINUTE.
        due.is("28", melted("(heat=28)*100", 9, 1), 9);
        due.is("not 19", melted("(heat=19)*100", 9, 1), 0);
    }

    static void promise13FatOfTheLawIsWhatIsHeldAhead() {
        due.is("all of it", gone("(fat=9)*100", 9, 1), 9);
        due.is("none yet", gone("(fat=0)*100", 9, 1), 0);
    }

    static void promise13WaterOfTheLawIsAsItIsAhead() {
        // HEAT 44 takes 1 of the WATER 20 behind all else.
        ThreadsAndSplits x = pot("melt (water=20)*100;split (water=20)*100;thread water;", 2, 1, 0);
        x.cheese(1, 9, 0, 9, 0);
        x.set(0, 8);
        is(x, HEAT, 44);
        is(x, FREE, 9);
        is(x, DROPS, 9);
        is(x, WATER, 19);
        is(x, THREADS, 19);
    }

    /** DROPS of so much fat, then a MINUTE that is not stirred. */
    private static ThreadsAndSplits risen(int fat) {
        ThreadsAndSplits x = pot("melt 0;split 100;thread 0;", 2, 1, 0, 0, 0, 0);
        x.cheese(1, fat, 0, 0, 0);
        return x;
    }

    static void promise13HalfOfDropsIsCut() {
        int[][] halves = {{0, 0}, {1, 0}, {2, 1}, {3, 1}, {4, 2}, {99, 49}};
        for (int[] h : halves) {
            is(risen(h[0]), OIL, h[1]);
            is(risen(h[0]), DROPS, h[0] - h[1]);
        }
    }

    static void promise13StirredNothingGoesToOil() {
        ThreadsAndSplits x = pot("melt 0;split 50;thread 0;", 2, 2, 0, 3, 9, 0);
        x.cheese(1, 99, 0, 0, 0);
        is(x, OIL, 0);
        is(x, MINUTES, 11);
    }

    // ---- a minute: crust

    static void promise13AtHeat60ThereIsNoCrustYet() {
        // Flame 6: 20 less 8 is 12, becomes 32, 45, 54, 60.
        ThreadsAndSplits x = pot(STILL, 2, 8, 0, 0, 2, 0);
        x.cheese(1, 0, 0, 0, 0);
        x.set(0, 6);
        is(x, HEAT, 60);
        is(x, CRUST, 0);
    }

    static void promise13AtHeat61ThereIsCrust() {
        // Flame 6: 20 becomes 37, 48, 56, 61.
        ThreadsAndSplits x = pot(STILL, 0, 2, 0);
        x.set(0, 6);
        is(x, HEAT, 56);
        is(x, CRUST, 0);
        x.act(0, 0, 0);
        is(x, HEAT, 61);
        is(x, CRUST, 1);
    }

    private static int crustOf(int lime, int handfuls) {
        // Flame 9: above 60 in the second MINUTE, which alone is not stirred.
        ThreadsAndSplits x = pot(STILL, 2, handfuls, 0, 0, 0, 0);
        x.cheese(1, 0, 0, lime, 0);
        x.set(0, 9);
        return x.pot(2, CRUST);
    }

    static void promise13CrustOfTiedIsCut() {
        due.is("0", crustOf(0, 1), 1);
        due.is("49", crustOf(49, 1), 1);
        due.is("50", crustOf(50, 1), 2);
        due.is("99", crustOf(99, 1), 2);
        due.is("100", crustOf(50, 2), 3);
    }

    static void promise13CrustOfTiedAsItIsThenBehindMelting() {
        // All TIED melts in the same MINUTE in which it is above 60.
        ThreadsAndSplits x = pot("melt (60<heat)*100;split 0;thread 0;", 2, 1, 0, 0, 0, 0);
        x.cheese(1, 0, 0, 99, 0);
        x.set(0, 9);
        is(x, FREE, 99);
        is(x, CRUST, 1);
    }

    static void promise13StirredThereIsNoCrust() {
        ThreadsAndSplits x = pot(STILL, 3, 9, 0);
        x.set(0, 9);
        is(x, HEAT, 106);
        is(x, CRUST, 0);
    }

    // ---- a minute: water

    private static int boiledAway(int flame, int handfuls, int further, int heat) {
        ThreadsAndSplits x = pot(STILL, 2, handfuls, 0);
        for (int i = 0; i < further; i++) {
            x.act(1, 0, 0);
        }
        x.cheese(1, 0, 0, 0, 0);
        x.set(0, flame);
        int n = x.count(4);
        due.is("heat", x.pot(n, HEAT), heat);
        return x.pot(n - 1, WATER) - x.pot(n, WATER);
    }

    static void promise13WaterFallsByHeatBy40Cut() {
        // Flame 7: 17 becomes 39, 18 becomes 40. Flame 9: 13, 44, 65, 79; 16, 46, 66, 80.
        due.is("39", boiledAway(7, 3, 0, 39), 0);
        due.is("40", boiledAway(7, 2, 0, 40), 1);
        due.is("79", boiledAway(9, 7, 2, 79), 1);
        due.is("80", boiledAway(9, 4, 2, 80), 2);
    }

    static void promise13WaterIs0AtLeast() {
        int[][] left = {{0, 0}, {1, 0}, {2, 0}, {3, 1}};
        for (int[] l : left) {
            // Flame 9, two MINUTES: 49 and 68 take 1 each.
            ThreadsAndSplits x = pot(STILL, 1, 0, 0, 1, 0, 0);
            x.set(0, 9);
            x.set(1, l[0]);
            is(x, WATER, l[1]);
        }
        // HEAT 81 would take 2 where there is 1.
        ThreadsAndSplits y = pot(STILL, 1, 0, 0, 1, 0, 0, 1, 0, 0);
        y.set(0, 9);
        y.set(1, 3);
        is(y, HEAT, 81);
        is(y, WATER, 0);
    }

    // ---- pours, starch

    private static int soured(int... acts) {
        ThreadsAndSplits x = pot(STILL, acts);
        x.set(2, 9);
        return x.pot(x.count(4), SOUR);
    }

    static void promise13SourOfAPourIsCut() {
        due.is("3 by 4", soured(1, 1, 3), 9);
        due.is("4 by 4", soured(1, 1, 4), 10);
        due.is("7 by 4", soured(1, 7, 1), 10);
        due.is("8 by 4", soured(1, 2, 4), 11);
        due.is("81 by 4", soured(1, 9, 9), 29);
        due.is("of 0", soured(1, 9, 0), 9);
        due.is("0 of it", soured(1, 0, 9), 9);
    }

    static void promise13SourIs99AtMost() {
        due.is("98", soured(1, 9, 9, 1, 9, 9, 1, 9, 9, 1, 9, 9, 1, 4, 9), 98);
        due.is("99", soured(1, 9, 9, 1, 9, 9, 1, 9, 9, 1, 9, 9, 1, 5, 8), 99);
        due.is("100", soured(1, 9, 9, 1, 9, 9, 1, 9, 9, 1, 9, 9, 1, 5, 9), 99);
        due.is("far more", soured(1, 9, 9, 1, 9, 9, 1, 9, 9, 1, 9, 9, 1, 9, 9, 1, 9, 9), 99);
        due.is("of a starch", soured(4, 9, 9, 4, 9, 9, 4, 9, 9, 4, 9, 9, 4, 9, 9, 4, 9, 9), 99);
    }

    static void promise13HeatOfAPourIsCut() {
        // Flame 0: 20 becomes 14, 19 becomes 13, 18 becomes 12, 16 becomes 11.
        int[][] heats = {{0, 14}, {1, 14}, {2, 13}, {3, 13}, {4, 12}, {8, 11}, {9, 11}};
        for (int[] h : heats) {
            for (int kind : new int[] {1, 4}) {
                ThreadsAndSplits x = pot(STILL, kind, h[0], 0);
                x.set(0, 0);
                is(x, HEAT, h[1]);
            }
        }
    }

    static void promise13HeatOfAPourIs0AtLeast() {
        // Flame 0: 14, 10, 7, 5, 4, 3, 2 behind seven MINUTES.
        for (int more = 4; more <= 9; more++) {
            ThreadsAndSplits x = pot(STILL, 0, 6, 0, 1, more, 0);
            x.set(0, 0);
            is(x, HEAT, 0);
        }
    }

    static void promise13WaterOfAPour() {
        ThreadsAndSplits x = pot(STILL, 1, 0, 0, 1, 9, 0, 4, 9, 0);
        x.set(0, 0);
        due.is("0 more", x.pot(1, WATER), 20);
        due.is("9 more", x.pot(2, WATER), 29);
        due.is("starch, 9 more", x.pot(3, WATER), 38);
    }

    static void promise13StarchIs99AtMost() {
        ThreadsAndSplits x = pot(STILL, 4, 0, 0);
        is(x, STARCH, 0);
        for (int i = 1; i <= 10; i++) {
            x.act(4, 9, 0);
            is(x, STARCH, 9 * i);
        }
        x.act(4, 8, 0);
        is(x, STARCH, 98);
        x.forget();
        x.act(4, 9, 0);
        is(x, STARCH, 99);
        ThreadsAndSplits y = pot(STILL);
        for (int i = 0; i < 11; i++) {
            y.act(4, 9, 0);
        }
        y.act(4, 1, 0);
        is(y, STARCH, 99);
        y.forget();
        y.act(1, 9, 9);
        is(y, STARCH, 99);
    }

    // ---- strokes

    /** OIL 20 and DROPS 10 behind two acts, FREE as much as LIME; then what comes. */
    private static ThreadsAndSplits oily(int lime, int... acts) {
        ThreadsAndSplits x = pot("melt 100;split (starch<1)*50;thread 0;", 2, 1, 0, 0, 0, 0);
        x.cheese(1, 40, 0, lime, 0);
        due.is("oil", x.pot(2, OIL), 20);
        due.is("drops", x.pot(2, DROPS), 10);
        due.is("held", x.pot(2, HELD), 10);
        Make.acts(x, acts);
        return x;
    }

    static void promise13StrokesOfStrength0BringNothingBack() {
        is(oily(0, 3, 0, 0), OIL, 20);
        is(oily(99, 5, 0, 0), OIL, 20);
    }

    static void promise13FreeBy20IsCut() {
        int[][] back = {{0, 1}, {19, 1}, {20, 2}, {39, 2}, {40, 3}, {99, 5}};
        for (int[] b : back) {
            is(oily(b[0], 3, 1, 0), OIL, 20 - b[1]);
        }
    }

    static void promise13StrokesBringBackTheLesser() {
        // Of strength 4 with FREE 60 there come 16, with 80 just all 20, with 99 no more than that.
        is(oily(60, 3, 4, 0), OIL, 4);
        is(oily(80, 3, 4, 0), OIL, 0);
        is(oily(80, 3, 5, 0), OIL, 0);
        is(oily(99, 3, 9, 0), OIL, 0);
        is(oily(99, 5, 9, 0), OIL, 0);
        // HELD 10 and all that came back: 40 in all, of which in ten MINUTES HELD loses 5, 2, 1, 1, 0.
        is(oily(99, 3, 9, 0), DROPS, 39);
        is(oily(99, 3, 9, 0), HELD, 1);
    }

    static void promise13StarchCountsInStrokes() {
        // STARCH 3 ahead of strength 2: 2 times 4.
        is(oily(0, 4, 3, 0, 3, 2, 0), OIL, 12);
        is(oily(20, 4, 3, 0, 3, 2, 0), OIL, 10);
    }

    static void promise13StrokesTakeCrustNotBelow0() {
        // Flame 9: 49, then above 60 in three MINUTES.
        int[][] left = {{0, 3}, {1, 2}, {2, 1}, {3, 0}, {4, 0}, {9, 0}};
        for (int[] l : left) {
            for (int kind : new int[] {3, 5}) {
                ThreadsAndSplits x = pot(STILL, 0, 3, 0, kind, l[0], 9);
                x.set(0, 9);
                due.is("crust ahead", x.pot(1, CRUST), 3);
                is(x, CRUST, l[1]);
            }
        }
    }

    static void promise13AFlameIs0To9FromItsFirstMinuteOn() {
        ThreadsAndSplits x = pot(STILL, 5, 0, 0);
        is(x, HEAT, 14);
        ThreadsAndSplits y = pot(STILL, 5, 1, 9);
        is(y, HEAT, 49);
        due.is("the flame told at first stays", y.count(0), 4);
        due.is("the flame told at first", y.pot(0, HEAT), 20);
    }

    // ---- thick, threads

    private static int thick(int water, int... acts) {
        ThreadsAndSplits x = pot("melt 100;split 0;thread 0;", acts);
        x.cheese(1, 0, 0, 60, 0);
        x.set(0, 0);
        x.set(1, water);
        return x.pot(x.count(4), THICK);
    }

    static void promise13ThickByWaterBy10OneAtLeast() {
        due.is("0", thick(0, 2, 1, 0), 60);
        due.is("9", thick(9, 2, 1, 0), 60);
        due.is("10", thick(10, 2, 1, 0), 60);
        due.is("19", thick(19, 2, 1, 0), 60);
        due.is("20", thick(20, 2, 1, 0), 30);
        due.is("29", thick(29, 2, 1, 0), 30);
        due.is("30", thick(30, 2, 1, 0), 20);
        due.is("99", thick(99, 2, 1, 0), 6);
        due.is("an empty pot", thick(0), 0);
    }

    static void promise13ThickTellsDrops() {
        // HELD 99, of which 60 parts of 100 become DROPS, 59; LIME 1 becomes FREE.
        ThreadsAndSplits x = pot("melt 100;split 60;thread 0;", 2, 1, 0);
        x.cheese(1, 99, 0, 1, 0);
        x.set(1, 0);
        is(x, DROPS, 59);
        is(x, THICK, 60);
        is(x, SORT, 0);
        x.act(4, 0, 0);
        // 24 more of what is left.
        is(x, THICK, 84);
        is(x, SORT, 5);
    }

    static void promise13ThickTellsThreeTimesStarch() {
        due.is("starch alone", thick(0, 4, 5, 0), 15);
        due.is("both", thick(0, 4, 5, 0, 2, 1, 0), 75);
    }

    private static int threads(String thread, int lime) {
        ThreadsAndSplits x = pot("melt 100;split 0;thread " + thread + ";", 2, 1, 0);
        x.cheese(1, 0, 0, lime, 0);
        return x.pot(1, THREADS);
    }

    static void promise13ThreadsAre0IfFreeIs0() {
        due.is("free 0", threads("50", 0), 0);
        due.is("free 1", threads("50", 1), 50);
        due.is("an empty pot", Make.under("melt 100;split 0;thread 50;").pot(0, THREADS), 0);
    }

    static void promise13ThreadsAreFrom0To999ElseTheBound() {
        due.is("far below", threads("-9999", 1), 0);
        due.is("-1", threads("-1", 1), 0);
        due.is("0", threads("0", 1), 0);
        due.is("1", threads("1", 1), 1);
        due.is("998", threads("998", 1), 998);
        due.is("999", threads("999", 1), 999);
        due.is("1000", threads("1000", 1), 999);
        due.is("the least int", threads("4096*4096*128", 1), 0);
        due.is("the greatest int", threads("4096*4096*128-1", 1), 999);
    }

    // ---- sorts

    /**
     * Flame 0: HEAT 12 when the two handfuls come, 8 in the next MINUTE, which is not stirred: in that so many of
     * 100 of HELD become OIL, half of TIED melts. No WATER goes.
     */
    private static ThreadsAndSplits split(int parts, int lime, int wine) {
        ThreadsAndSplits x = pot("melt (heat<9)*50;split (heat<9)*" + parts + ";thread 0;", 2, 2, 0, 0, 0, 0);
        x.cheese(1, 50, 0, lime, 0);
        x.set(0, 0);
        x.set(1, wine);
        due.is("oil", x.pot(2, OIL), parts);
        due.is("water", x.pot(2, WATER), wine);
        return x;
    }

    static void promise13FourTimesOilIsNotAboveWhenLike() {
        // OIL 20, HELD 80, DROPS 0; then OIL 21, HELD 79.
        is(split(20, 0, 0), SORT, 0);
        is(split(21, 0, 0), SORT, 3);
    }

    static void promise13DropsCountWithWhatIsHeld() {
        // HELD 19 becomes DROPS, then OIL 9 and DROPS 10: 36 is above 10; with 26 more of HELD it is not.
        ThreadsAndSplits x = pot("melt 0;split (fat<20)*100;thread 0;", 2, 1, 0, 0, 0, 0);
        x.cheese(1, 19, 0, 0, 0);
        x.cheese(1, 26, 0, 0, 0);
        x.cheese(1, 25, 0, 0, 0);
        is(x, OIL, 9);
        is(x, SORT, 3);
        x.act(2, 1, 1);
        is(x, SORT, 0);
        x.forget();
        x.act(2, 1, 2);
        is(x, SORT, 3);
    }

    static void promise13LumpedIfTiedIsAboveFree() {
        // LIME 11 twice: 11 tied, 11 free.
        is(split(21, 11, 99), SORT, 3);
        // One handful: HEAT 13, then 9. Of 11 tied a half, 5, melts.
        ThreadsAndSplits x = pot("melt (heat<10)*50;split (heat<10)*40;thread 0;", 2, 1, 0, 0, 0, 0);
        x.cheese(1, 50, 0, 11, 0);
        x.set(0, 0);
        x.set(1, 99);
        is(x, TIED, 6);
        is(x, FREE, 5);
        is(x, OIL, 20);
        is(x, SORT, 4);
        x.ripen(0, 3, 10);
        is(x, TIED, 5);
        is(x, FREE, 5);
        is(x, SORT, 3);
    }

    static void promise13LumpedIfWaterIsAbove5TimesMuch() {
        ThreadsAndSplits x = pot("melt 0;split (heat<9)*21;thread 0;", 2, 2, 0, 0, 0, 0);
        x.cheese(1, 50, 0, 1, 0);
        x.set(0, 0);
        x.set(1, 10);
        is(x, SORT, 3);
        x.set(1, 11);
        is(x, SORT, 4);
        x.set(1, 0);
        is(x, SORT, 3);
    }

    static void promise13GrainyIfTiedIsAboveFree() {
        ThreadsAndSplits x = pot("melt 50;split 0;thread 0;", 2, 1, 0);
        x.cheese(1, 50, 0, 10, 0);
        is(x, TIED, 5);
        is(x, FREE, 5);
        is(x, SORT, 0);
        x.ripen(0, 3, 11);
        is(x, TIED, 6);
        is(x, FREE, 5);
        is(x, SORT, 2);
    }

    static void promise13ThickIfAbove60() {
        ThreadsAndSplits x = pot("melt 100;split 0;thread 99;", 2, 1, 0);
        x.cheese(1, 50, 0, 60, 0);
        x.set(1, 0);
        is(x, THICK, 60);
        is(x, SORT, 1);
        x.ripen(0, 3, 61);
        is(x, THICK, 61);
        is(x, SORT, 5);
    }

    static void promise13ThreadyIfThreadsAreAbove40() {
        int[][] sorts = {{0, 0}, {40, 0}, {41, 1}, {999, 1}};
        for (int[] s : sorts) {
            ThreadsAndSplits x = pot("melt 100;split 0;thread " + s[0] + ";", 2, 1, 0);
            x.cheese(1, 50, 0, 1, 0);
            is(x, THREADS, s[0]);
            is(x, SORT, s[1]);
        }
    }

    static void promise13NothingInItIsSmooth() {
        // Starch alone is thick, but it is no sort of cheese.
        ThreadsAndSplits x = pot(STILL, 4, 9, 0, 4, 9, 0, 4, 9, 0);
        x.set(1, 0);
        is(x, THICK, 40);
        is(x, SORT, 0);
        x.act(4, 9, 0);
        x.act(4, 9, 0);
        x.forget();
        is(x, SORT, 0);
    }

    static void promise13OneHandfulIsEnough() {
        ThreadsAndSplits x = pot(STILL, 2, 1, 0);
        x.cheese(1, 0, 0, 1, 0);
        is(x, SORT, 2);
    }

    // ---- promise 14

    static void promise14WhatIs0Or1() {
        ThreadsAndSplits x = new ThreadsAndSplits();
        due.is("-1", x.splits(-1), -2);
        due.is("0", x.splits(0), -1);
        due.is("1", x.splits(1), -1);
        due.is("2", x.splits(2), -2);
        due.is("the least int", x.splits(MIN), -2);
        due.is("the greatest int", x.splits(MAX), -2);
    }

    static void promise14NoneWithoutActsOrOil() {
        ThreadsAndSplits x = new ThreadsAndSplits();
        due.is("no acts: holds", x.splits(0), -1);
        due.is("no acts: oil", x.splits(1), -1);
        ThreadsAndSplits y = pot(STILL, 2, 9, 0, 0, 9, 0);
        y.cheese(1, 99, 0, 99, 0);
        due.is("no oil: holds", y.splits(0), -1);
        due.is("no oil: oil", y.splits(1), -1);
    }

    static void promise14TheFirstActAndTheLast() {
        ThreadsAndSplits x = oily(0, 3, 0, 0);
        due.is("the second of three", x.splits(0), 1);
        due.is("most more", x.splits(1), 1);
        // The handful and a half of it in one act: none is in it ahead.
        ThreadsAndSplits y = pot("melt 0;split 100;thread 0;", 0, 9, 0, 2, 1, 0, 2, 1, 0, 0, 0, 0);
        y.cheese(1, 10, 0, 0, 0);
        due.is("the last", y.splits(0), 3);
        due.is("the last", y.splits(1), 3);
    }

    static void promise14OfLikeOnesTheFirst() {
        // DROPS 40, 20 become OIL; 20 to 22 more of FAT, then 20, 20 or 21 become OIL.
        int[][] first = {{20, 1}, {21, 1}, {22, 3}};
        for (int[] f : first) {
            ThreadsAndSplits x = pot("melt 0;split 100;thread 0;", 2, 1, 0, 0, 0, 0, 2, 1, 1, 0, 0, 0);
            x.cheese(1, 40, 0, 0, 0);
            x.cheese(1, f[0], 0, 0, 0);
            due.is("with " + f[0], x.splits(1), f[1]);
        }
    }

    static void promise14OneMoreIsMost() {
        due.is("one", risen(2).splits(1), 1);
        due.is("none", risen(1).splits(1), -1);
    }

    static void promise14MostMoreOfThoseThatGrow() {
        // 5 more, 10 more, 15 more; then, with less of the last cheese, 5, 10, 10.
        ThreadsAndSplits x = pot("melt 0;split 100;thread 0;", 2, 1, 0, 0, 0, 0, 2, 1, 1, 0, 0, 0, 2, 1, 2, 0, 0, 0);
        x.cheese(1, 10, 0, 0, 0);
        x.cheese(1, 15, 0, 0, 0);
        x.cheese(1, 20, 0, 0, 0);
        due.is("5", x.pot(2, OIL), 5);
        due.is("10 more", x.pot(4, OIL), 15);
        due.is("15 more", x.pot(6, OIL), 30);
        due.is("the last", x.splits(1), 5);
        x.ripen(2, 1, 10);
        due.is("10 more again", x.pot(6, OIL), 25);
        due.is("the first of both", x.splits(1), 3);
    }

    static void promise14LessOilIsNotMore() {
        // Only the strokes change OIL behind the second act, which is the one of most more.
        ThreadsAndSplits x = oily(0, 3, 9, 0, 3, 9, 0, 3, 0, 0);
        due.is("less each", x.pot(3, OIL) < x.pot(2, OIL) ? 1 : 0, 1);
        due.is("the second", x.splits(1), 1);
    }

    static void promise14ItMayHoldAgainBehindIt() {
        ThreadsAndSplits x = oily(0, 3, 9, 0, 3, 9, 0, 3, 9, 0);
        due.is("it holds in the end", x.pot(5, SORT), 0);
        due.is("the second yet", x.splits(0), 1);
    }

    // ---- promise 15

    static void promise15NIsFrom0ToHowManyActsThereAre() {
        due.is("-1 of none", new ThreadsAndSplits().hour(-1, 0), -5);
        due.is("0 of none", new ThreadsAndSplits().hour(0, 0), 60);
        due.is("1 of none", new ThreadsAndSplits().hour(1, 0), -5);
        ThreadsAndSplits x = Twins.full();
        due.is("12 of 12", x.hour(12, 1) >= 0 ? 1 : 0, 1);
        due.is("13 of 12", x.hour(13, 0), -5);
        due.is("the least int", x.hour(MIN, 0), -5);
        due.is("the greatest int", x.hour(MAX, 0), -5);
    }

    static void promise15WhatIs0Or1() {
        ThreadsAndSplits x = new ThreadsAndSplits();
        due.is("-1", x.hour(0, -1), -7);
        due.is("0", x.hour(0, 0), 60);
        due.is("1", x.hour(0, 1), 60);
        due.is("2", x.hour(0, 2), -7);
        due.is("the least int", x.hour(0, MIN), -7);
        due.is("the greatest int", x.hour(0, MAX), -7);
    }

    static void promise15NIsToldAheadOfWhat() {
        due.is("both", new ThreadsAndSplits().hour(1, 2), -5);
        due.is("both", new ThreadsAndSplits().hour(-1, -1), -5);
    }

    /**
     * It splits as soon as WATER is below 30. HEAT is 28 behind the handful, then 34, 38, 41, 43 ..: WATER falls by 1
     * from the third MINUTE on, so that it splits in MINUTE wine less 26.
     */
    private static ThreadsAndSplits drying(int wine) {
        ThreadsAndSplits x = pot("melt 0;split (water<30)*100;thread 0;", 2, 1, 0);
        x.cheese(1, 10, 0, 0, 0);
        x.set(1, wine);
        return x;
    }

    static void promise15SixtyMinutesAtMost() {
        due.is("85", drying(85).hour(1, 0), 58);
        due.is("86", drying(86).hour(1, 0), 59);
        due.is("87", drying(87).hour(1, 0), 60);
        due.is("88", drying(88).hour(1, 0), 60);
        due.is("99", drying(99).hour(1, 0), 60);
    }

    static void promise15SoonestOfAll() {
        due.is("31", drying(31).hour(1, 0), 4);
        due.is("30", drying(30).hour(1, 0), 3);
        // WATER 29: all are DROPS ahead, of which half rises in the first MINUTE.
        due.is("29", drying(29).hour(1, 0), 0);
        due.is("29, as it is", drying(29).pot(1, SORT), 0);
    }

    static void promise15StirredItNeverSplits() {
        due.is("29", drying(29).hour(1, 1), 60);
        due.is("30", drying(30).hour(1, 1), 60);
    }

    static void promise15NotAMinuteIfItDoesNotHoldAsItIs() {
        ThreadsAndSplits x = oily(0);
        due.is("it doesn't", x.pot(2, SORT), 3);
        due.is("not stirred", x.hour(2, 0), 0);
        due.is("stirred", x.hour(2, 1), 0);
        due.is("ahead of it", x.hour(1, 0), 0);
        due.is("ahead of it, stirred", x.hour(1, 1), 60);
        due.is("an empty pot", x.hour(0, 0), 60);
    }

    public static void main(String[] args) {
        Named.run(BoundariesOfThePotTest.class, due, 13, 14, 15);
    }
}
