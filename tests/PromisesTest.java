import java.math.BigInteger;

/** Each promise by answers worked out by hand, ordinary ones above all; its edges are tested one by one elsewhere. */
public final class PromisesTest {
    private static final int MIN = Integer.MIN_VALUE, MAX = Integer.MAX_VALUE;
    private static final long NO = -4611686018427387904L;
    private static final Due due = new Due();

    /** All that pot() tells, in its order. */
    private static void potIs(ThreadsAndSplits x, int n, int... all) {
        for (int what = 0; what < all.length; what++) {
            due.is("pot(" + n + ", " + what + ")", x.pot(n, what), all[what]);
        }
    }

    private static void aNewObject() {
        ThreadsAndSplits x = new ThreadsAndSplits();
        int[] counts = {4, 20, 3, 0, 0, 1, 0, 0};
        for (int what = 0; what < 8; what++) {
            due.is("1 count " + what, x.count(what), counts[what]);
        }
        for (int s = 0; s < 4; s++) {
            due.is("1 sheets are missing", x.cell(s, 0, 0), -11);
        }
        due.is("1 no image", x.back(), -3);
        due.is("constants", ThreadsAndSplits.NONE + 10 * ThreadsAndSplits.BAD + 100 * ThreadsAndSplits.STATE
            + 1000 * ThreadsAndSplits.FULL, -4321);
        due.is("NO", ThreadsAndSplits.NO, NO);
    }

    private static void cheeses() {
        ThreadsAndSplits x = new ThreadsAndSplits();
        int[][] bad = {{0, 0, 0, 0, 0}, {100, 0, 0, 0, 0}, {1, -1, 0, 0, 0}, {1, 100, 0, 0, 0}, {1, 0, -1, 0, 0},
            {1, 0, 100, 0, 0}, {1, 0, 0, -1, 0}, {1, 0, 0, 100, 0}, {1, 0, 0, 0, -1}, {1, 0, 0, 0, 100},
            {MIN, 0, 0, 0, 0}, {1, MAX, 0, 0, 0}};
        for (int[] b : bad) {
            due.is("2 bad cheese", x.cheese(b[0], b[1], b[2], b[3], b[4]), -2);
        }
        due.is("2 least", x.cheese(1, 0, 0, 0, 0), 0);
        due.is("2 greatest", x.cheese(99, 99, 99, 99, 99), 1);
        due.is("2 third", x.cheese(10, 11, 12, 13, 14), 2);
        due.is("2 fourth", x.cheese(20, 21, 22, 23, 24), 3);
        due.is("2 full", x.cheese(1, 0, 0, 0, 0), -4);
        due.is("2 bad ahead of full", x.cheese(0, 0, 0, 0, 0), -2);
        due.is("2 count", x.count(3), 4);
        for (int what = 0; what < 5; what++) {
            due.is("4 told", x.sortTold(2, what), 10 + what);
            due.is("3 was", x.ripen(2, what, 50 + what), 10 + what);
            due.is("4 told now", x.sortTold(2, what), 50 + what);
            due.is("3 others stay", x.sortTold(3, what), 20 + what);
            due.is("3 too much", x.ripen(2, what, 100), -7);
            due.is("3 below", x.ripen(2, what, what == 0 ? 0 : -1), -7);
            due.is("3 least", x.ripen(2, what, what == 0 ? 1 : 0), 50 + what);
            due.is("3 most", x.ripen(2, what, 99), what == 0 ? 1 : 0);
        }
        for (int what : new int[] {-1, 5, MIN, MAX}) {
            due.is("3 what", x.ripen(0, what, 1), -7);
            due.is("4 what", x.sortTold(0, what), -7);
        }
        for (int s : new int[] {-1, 4, MIN, MAX}) {
            due.is("3 no such cheese comes first", x.ripen(s, 9, 999), -5);
            due.is("4 no such cheese comes first", x.sortTold(s, 9), -5);
        }
        due.is("3 not yet there", new ThreadsAndSplits().ripen(0, 0, 1), -5);
    }

    private static void settings() {
        ThreadsAndSplits x = new ThreadsAndSplits();
        int[] first = {4, 20, 3};
        int[] top = {9, 99, 9};
        for (int what = 0; what < 3; what++) {
            due.is("5 above", x.set(what, top[what] + 1), -2);
            due.is("5 below", x.set(what, -1), -2);
            due.is("5 was", x.set(what, 0), first[what]);
            due.is("5 was 0", x.set(what, top[what]), 0);
            due.is("6 told", x.count(what), top[what]);
        }
        for (int what : new int[] {-1, 3, MIN, MAX}) {
            due.is("5 none comes first", x.set(what, -1), -1);
        }
        for (int what : new int[] {-1, 8, MIN, MAX}) {
            due.is("6 bad", x.count(what), -2);
        }
    }

    private static void tape() {
        ThreadsAndSplits x = new ThreadsAndSplits();
        for (int n : new int[] {0, 6, -1, MIN, MAX}) {
            due.is("7 n", x.feed(n, 1, 1, 1, 1, 1), -2);
        }
        for (int i = 0; i < 5; i++) {
            int[] f = {32, 32, 32, 32, 32};
            f[i] = 256;
            due.is("7 byte too great", x.feed(1, f[0], f[1], f[2], f[3], f[4]), -2);
            f[i] = -1;
            due.is("7 byte below 0", x.feed(1, f[0], f[1], f[2], f[3], f[4]), -2);
        }
        for (int n = 1; n <= 5; n++) {
            due.is("7 n come", x.feed(n, 255, 0, 32, 10, 32), n * (n + 1) / 2);
        }
        for (int i = 0; i < 28; i++) {
            x.feed(5, 32, 32, 32, 32, 32);
        }
        due.is("7 room for 5", x.count(7), 155);
        due.is("7 four", x.feed(4, 32, 32, 32, 32, 32), 159);
        due.is("7 full, none comes", x.feed(2, 32, 32, 32, 32, 32), -4);
        due.is("7 bad ahead of full", x.feed(2, 32, 32, 32, 32, 256), -2);
        due.is("7 one has room", x.feed(1, 32, 32, 32, 32, 32), 160);
        due.is("7 full", x.feed(1, 32, 32, 32, 32, 32), -4);
        due.is("8 fault at 255", x.text(), -100);
        due.is("8 the tape is empty", x.count(7), 0);
        due.is("8 nothing is no text", x.text(), -100);
    }

    private static void textFault(String text, int place) {
        due.is("8 fault of [" + text + "]", Make.read(new ThreadsAndSplits(), text), -100 - place);
    }

    private static void texts() {
        textFault("", 0);
        textFault("   ", 3);
        textFault("melt", 4);
        textFault("melt ;", 5);
        textFault("malt 1;", 0);
        textFault("meltx 1;", 0);
        textFault("meltz 1;", 0);
        textFault("amelt 1;", 0);
        textFault("melt 1 ; split 2 ; thread 3", 27);
        textFault("melt 1 ; split 2 ; thread 3 \n", 29);
        textFault("melt 1 ; split 2 ; thread 3 ; ;", 30);
        textFault("melt 1 ; split 2 ; thread 3 ; x", 30);
        textFault("melt 1 ; thread 2 ; split 3 ;", 9);
        textFault("melt 12345 ; ", 5);
        textFault("melt 1 12345 ; ", 7);
        textFault("melt cold ; ", 5);
        textFault("melt heats ; ", 5);
        textFault("melt he at ; ", 5);
        textFault("melt melt ; ", 5);
        textFault("melt 1 , 2 ; ", 7);
        textFault("melt 1 \t 2 ; ", 7);
        textFault("melt 1 \r", 7);
        textFault("melt 1 > 2 ; ", 7);
        textFault("melt Heat ; ", 5);
        textFault("melt 1 2 ; ", 7);
        textFault("melt 1 heat ; ", 7);
        textFault("melt 1 < 2 < 3 ; ", 11);
        textFault("melt 1 = 2 = 3 ; ", 11);
        textFault("melt 1 + not 2 ; ", 9);
        textFault("melt * 2 ; ", 5);
        textFault("melt + 2 ; ", 5);
        textFault("melt (1 ; ", 8);
        textFault("melt () ; ", 6);
        textFault("melt 1) ; ", 6);
        textFault("melt 1 or ; ", 10);
        textFault("melt 1 and or 2 ; ", 11);
        textFault("melt not ; ", 9);
        textFault("melt ((((((1)))))) ;", 10);
        textFault("melt ------1 ;", 10);
        textFault("melt not not not not not not 1 ;", 25);
        textFault("melt (((((-1))))) ;", 10);
        textFault("melt (((((not 1))))) ;", 10);
        textFault("melt not not not not not (1) ;", 25);
        textFault("melt - - - (-(-1)) ;", 13);
        textFault("melt ((((((", 10);
        textFault("melt (((((", 10);
        textFault("melt 1 ; split 2 ; thread \u00e4 ;", 26);

        ThreadsAndSplits x = new ThreadsAndSplits();
        due.is("8 first", Make.read(x, "melt((((( 9999)))))+(((((1)))));split-----heat;thread not not not not not "
            + "age;"), 1);
        due.is("8 no blanks", Make.read(x, "melt 1;split 2;thread 3;"), 2);
        due.is("8 words end by what is no letter", Make.read(x, "melt(1)or 2and 3;split not(1)<2;thread\n0007;"), 3);
        due.is("8 - in a chain is not open", Make.read(x, "melt 1 - -1 - -1 - -1 - -1 - -1 - -1;"
            + "split not 1 or not 1 or not 1 or not 1 or not 1 or not 1;thread (1)*(1)*(1)*(1)*(1)*(1);"), 4);
        due.is("8 sixth", Make.read(x, "melt heat+sour*starch-water;split fat<age;thread 1=2;"), 5);
        due.is("6 texts", x.count(5), 6);
        x.feed(1, 0, 0, 0, 0, 0);
        due.is("8 full ahead of the fault", x.text(), -4);
        due.is("8 the tape stays", x.count(7), 1);
        due.is("9 was 0", x.force(5), 0);
        due.is("9 was 5", x.force(3), 5);
        due.is("6 the law", x.count(6), 3);
        for (int t : new int[] {-1, 6, MIN, MAX}) {
            due.is("9 bad", x.force(t), -2);
        }
        due.is("9 bad changes nothing", x.count(6), 3);
    }

    /** What an expression is worth in a pot of HEAT 2, SOUR 3, STARCH 7, WATER 34, HELD 70, AGE 7 (15 weeks by 2). */
    private static void worth(String e, int value) {
        ThreadsAndSplits x = Make.under("melt 100;split 0;thread " + e + ";");
        x.set(0, 0);
        x.cheese(7, 30, 2, 5, 0);
        x.cheese(8, 40, 3, 5, 0);
        Make.acts(x, 2, 1, 0, 2, 1, 1, 1, 2, 0, 4, 7, 0);
        // HEAT 20 less 1 becomes 13, less 1 becomes 8, less 1 becomes 5, less 3 stays 2.
        due.is("what is " + e, x.pot(4, 12), Math.max(0, Math.min(999, value)));
    }

    private static void expressions() {
        worth("heat", 2);
        worth("sour", 3);
        worth("starch", 7);
        worth("water", 34);
        worth("fat", 70);
        worth("age", 7);
        worth("0", 0);
        worth("9999", 999);
        worth("998 + 1", 999);
        worth("998 + 2", 999);
        worth("0 - 1", 0);
        worth("- 1", 0);
        worth("2 + 3 * 4", 14);
        worth("(2 + 3) * 4", 20);
        worth("20 - 3 - 4", 13);
        worth("- 3 + 10", 7);
        worth("- (3 - 10)", 7);
        worth("2 * - 3 + 10", 4);
        worth("- - 5", 5);
        worth("1 < 2", 1);
        worth("2 < 2", 0);
        worth("2 = 2", 1);
        worth("2 = 3", 0);
        worth("1 + 1 < 3", 1);
        worth("(1 < 2) * 50", 50);
        worth("not 0", 1);
        worth("not 7", 0);
        worth("not not 7", 1);
        worth("not 1 < 2", 0);
        worth("5 or 0", 1);
        worth("0 or 0", 0);
        worth("5 and 7", 1);
        worth("5 and 0", 0);
        worth("1 or 0 and 0", 1);
        worth("(1 or 0) and 0", 0);
        worth("not 0 and 0", 0);
        worth("not (0 and 0)", 1);
        worth("0 or 7 - 7", 0);
        worth("(5)", 5);
        worth("9999 * 9999 * 9999 < 0", 1);
        worth("9999*9999*22 < 0", 1);
        worth("9999*9999*21 < 0", 0);
        worth("65 - 9999*9999*43", (int) (65L - 9999L * 9999 * 43));
    }

    private static void actList() {
        ThreadsAndSplits x = new ThreadsAndSplits();
        int[][] bad = {{-1, 0, 0}, {6, 0, 0}, {0, -1, 0}, {0, 10, 0}, {0, 0, -1}, {0, 0, 10}, {MAX, 0, 0}, {0, MIN, 0}};
        for (int[] b : bad) {
            due.is("10 bad", x.act(b[0], b[1], b[2]), -2);
        }
        due.is("11 none", x.forget(), -3);
        int[] passing = {8, 1, 1, 8, 1, 7};
        for (int kind = 0; kind < 6; kind++) {
            due.is("10 number", x.act(kind, 7, kind + 1), kind);
            int[] told = {kind, 7, kind + 1, passing[kind], kind == 0 ? 0 : 1};
            for (int what = 0; what < 5; what++) {
                due.is("12 told", x.actTold(kind, what), told[what]);
            }
        }
        due.is("12 what below", x.actTold(0, -1), -7);
        due.is("12 what above", x.actTold(0, 5), -7);
        due.is("12 none such comes first", x.actTold(6, 5), -5);
        due.is("12 none such", x.actTold(-1, 0), -5);
        due.is("12 none such", x.actTold(MAX, 0), -5);
        int[] shortest = {1, 1, 1, 1, 1, 1};
        for (int kind = 0; kind < 6; kind++) {
            due.is("10 number", x.act(kind, 0, 9), 6 + kind);
            due.is("12 minutes of more 0", x.actTold(6 + kind, 3), shortest[kind]);
        }
        due.is("10 full", x.act(0, 0, 0), -4);
        due.is("10 bad ahead of full", x.act(0, 0, 10), -2);
        due.is("11 forget", x.forget(), 11);
        due.is("12 forgotten", x.actTold(11, 0), -5);
        due.is("10 its number again", x.act(3, 1, 2), 11);
        due.is("12 the new one", x.actTold(11, 0), 3);
        for (int left = 11; left >= 0; left--) {
            due.is("11 how many are left", x.forget(), left);
        }
        due.is("11 none left", x.forget(), -3);
    }

    /** Half of TIED and a tenth of HELD each MINUTE; a pot of every sort of act. */
    private static ThreadsAndSplits halves() {
        ThreadsAndSplits x = Make.under("melt 50;split 10;thread 45;");
        x.cheese(10, 10, 5, 20, 3);
        Make.acts(x, 2, 4, 0, 0, 1, 0, 3, 2, 0, 4, 8, 6, 5, 0, 9, 1, 3, 5);
        return x;
    }

    private static void pots() {
        ThreadsAndSplits x = halves();
        potIs(x, 0, 0, 0, 0, 0, 0, 20, 3, 0, 20, 0, 0, 0, 0, 0);
        potIs(x, 1, 40, 40, 36, 4, 0, 40, 3, 0, 26, 1, 0, 11, 45, 1);
        potIs(x, 2, 10, 70, 30, 1, 9, 40, 3, 0, 38, 3, 0, 17, 45, 3);
        potIs(x, 3, 2, 78, 23, 16, 1, 37, 3, 0, 44, 6, 0, 31, 45, 1);
        potIs(x, 4, 1, 79, 21, 18, 1, 44, 15, 8, 42, 7, 0, 30, 45, 1);
        potIs(x, 5, 1, 79, 19, 20, 1, 43, 15, 8, 64, 8, 0, 30, 45, 1);
        potIs(x, 6, 1, 79, 18, 21, 1, 45, 18, 8, 78, 9, 0, 31, 45, 1);
        due.is("13 no such n", x.pot(7, 0), -5);
        due.is("13 no such n comes first", x.pot(-1, 14), -5);
        due.is("13 what", x.pot(6, 14), -7);
        due.is("13 what", x.pot(6, -1), -7);
        due.is("14 first split", x.splits(0), 1);
        due.is("14 most more oil", x.splits(1), 1);
        due.is("14 bad", x.splits(2), -2);
        due.is("14 bad", x.splits(-1), -2);
        due.is("15 not as it is", x.hour(2, 0), 0);
        due.is("15 not as it is, stirred", x.hour(2, 1), 0);
        // Behind the first act: OIL 5 of 35, then 9 of 31.
        due.is("15 holds for one minute", x.hour(1, 0), 1);
        due.is("15 stirred", x.hour(1, 1), 60);
        due.is("15 no such n", x.hour(7, 2), -5);
        due.is("15 what", x.hour(1, 2), -7);
        due.is("15 what", x.hour(1, -1), -7);
    }

    private static void bounds() {
        ThreadsAndSplits x = Make.under("melt 0 - 7;split 9999;thread 0;");
        x.cheese(1, 99, 0, 99, 0);
        Make.acts(x, 1, 9, 9, 1, 9, 9, 1, 9, 9, 1, 9, 9, 1, 9, 9, 4, 9, 9, 4, 9, 9, 5, 9, 9, 5, 9, 9);
        due.is("sour is 99 at most", x.pot(9, 6), 99);
        due.is("starch", x.pot(9, 7), 18);
        due.is("heat of flame 9", x.pot(9, 8), 106);
        for (int i = 0; i < 3; i++) {
            x.act(2, 9, 0);
        }
        due.is("below 0 nothing melts", x.pot(12, 0), 2673);
        due.is("all goes", x.pot(12, 2), 0);
        due.is("all goes to drops", x.pot(12, 3), 2673);
        ThreadsAndSplits y = new ThreadsAndSplits();
        Make.acts(y, 4, 9, 0, 4, 9, 0, 4, 9, 0, 4, 9, 0, 4, 9, 0, 4, 9, 0, 4, 9, 0, 4, 9, 0, 4, 9, 0, 4, 9, 0, 4, 9, 0);
        due.is("starch is 99 yet", y.pot(11, 7), 99);
        y.act(4, 9, 0);
        due.is("starch is 99 at most", y.pot(12, 7), 99);
        ThreadsAndSplits z = Make.under("melt 0;split 0;thread 0;");
        z.cheese(1, 1, 99, 99, 0);
        z.set(1, 99);
        z.set(0, 0);
        for (int i = 0; i < 12; i++) {
            z.act(2, 9, 0);
        }
        due.is("water of handfuls", z.pot(12, 5), 10791);
        due.is("heat of handfuls", z.pot(12, 8), 0);
        ThreadsAndSplits w = new ThreadsAndSplits();
        w.set(1, 1);
        Make.acts(w, 5, 9, 9);
        due.is("water is 0 at least", w.pot(1, 5), 0);
    }

    private static void crusts() {
        ThreadsAndSplits x = Make.under("melt 0;split 0;thread 0;");
        x.cheese(1, 10, 0, 99, 0);
        x.set(0, 9);
        Make.acts(x, 2, 4, 0, 0, 0, 0, 3, 3, 0, 0, 9, 0, 3, 9, 0);
        due.is("heat", x.pot(2, 8), 66);
        due.is("crust of TIED 396", x.pot(2, 10), 8);
        due.is("strokes loosen", x.pot(3, 10), 5);
        due.is("crust", x.pot(4, 10), 85);
        due.is("crust", x.pot(5, 10), 76);
        due.is("lumps do not hold, grains do", x.pot(5, 13), 2);
        // HEAT 20 less 8 becomes 32, then 45, 54, 60, 64: at 60 there is no crust yet, above it there is.
        ThreadsAndSplits y = Make.under("melt 0;split 0;thread 0;");
        y.cheese(1, 0, 0, 0, 0);
        y.set(0, 6);
        Make.acts(y, 2, 8, 0, 0, 2, 0);
        due.is("heat", y.pot(2, 8), 60);
        due.is("not above 60", y.pot(2, 10), 0);
        y.act(0, 0, 0);
        due.is("heat", y.pot(3, 8), 64);
        due.is("above 60", y.pot(3, 10), 1);
    }

    private static void sorts() {
        ThreadsAndSplits x = Make.under("melt starch * 10;split sour;thread 41 - (8 < starch);");
        x.cheese(1, 50, 0, 10, 0);
        x.cheese(1, 50, 6, 10, 0);
        Make.acts(x, 2, 4, 1, 0, 9, 0);
        due.is("lumped", x.pot(2, 13), 4);
        x.ripen(1, 2, 0);
        x.set(0, 0);
        x.set(1, 21);
        due.is("water above 5 times much", x.pot(2, 13), 4);
        x.set(1, 20);
        due.is("water no more than 5 times much", x.pot(2, 13), 3);
        x.set(0, 4);
        x.set(1, 0);
        x.forget();
        x.forget();
        Make.acts(x, 2, 4, 0, 0, 9, 0);
        due.is("little water: oiled", x.pot(2, 13), 3);
        due.is("grainy", x.pot(1, 13), 2);
        x.forget();
        x.forget();
        Make.acts(x, 4, 8, 0, 2, 4, 0);
        x.set(1, 20);
        due.is("threads above 40", x.pot(2, 13), 1);
        x.forget();
        x.forget();
        Make.acts(x, 4, 9, 0, 2, 4, 0);
        due.is("threads no longer than 40", x.pot(2, 13), 0);
        x.set(1, 0);
        due.is("thick", x.pot(2, 11), 36 + 27 + 6);
        due.is("thick", x.pot(2, 13), 5);
    }

    private static void holdsOrNot() {
        ThreadsAndSplits x = Make.under("melt 100;split(40<heat or 4<sour)*100;thread 50;");
        x.cheese(5, 10, 0, 10, 0);
        due.is("16 nothing in it", x.flames(), 1023);
        Make.acts(x, 2, 2, 0, 0, 0, 0);
        due.is("16 flames", x.flames(), 31);
        due.is("17 sours", x.sours(), 31);
        due.is("18 region", x.region(), 25);
        long[][] odds = {{0, 1, 1}, {1, 2, 3}, {2, 3, 5}, {3, 4, 7}, {4, 5, 9}, {5, 6, 11}};
        for (long[] o : odds) {
            due.is("20 above", x.odds((int) o[0], 0), o[1]);
            due.is("20 below", x.odds((int) o[0], 1), o[2]);
        }
        x.set(0, 3);
        due.is("20 lowest terms", x.odds(4, 0), 2);
        due.is("20 lowest terms", x.odds(4, 1), 3);
        x.set(0, 9);
        due.is("16 whatever flame is told", x.flames(), 31);
        due.is("17 none", x.sours(), 0);
        due.is("20 none", x.odds(1, 0), 0);
        due.is("20 none", x.odds(1, 1), 1);
        x.set(0, 0);
        due.is("20 surely", x.odds(3, 0), 1);
        due.is("20 surely", x.odds(3, 1), 1);
        x.set(2, 5);
        due.is("16 none", x.flames(), 0);
        due.is("18 whatever is told", x.region(), 25);
        for (int off : new int[] {-1, 6, MIN, MAX}) {
            due.is("20 no", x.odds(off, 0), NO);
        }
        due.is("20 no part", x.odds(0, 2), NO);
        due.is("20 no part", x.odds(0, -1), NO);
        due.is("nothing is changed", x.count(0) * 100 + x.count(1) + x.count(2), 25);
    }

    private static void mostWine() {
        ThreadsAndSplits x = Make.under("melt 0;split(water=25)*100;thread 0;");
        x.cheese(1, 10, 0, 10, 0);
        Make.acts(x, 2, 2, 0, 0, 0, 0);
        due.is("19 up to", x.most(), 24);
        x.set(1, 25);
        due.is("19 not with what there is", x.most(), -1);
        x.set(1, 26);
        due.is("19 all", x.most(), 99);
        x.set(1, 99);
        due.is("19 no more", x.most(), 99);
        due.is("19 changes nothing", x.count(1), 99);
    }

    /** All that is held comes out as soon as it is sour; it rises in the last act, for it is not stirred. */
    private static ThreadsAndSplits soured(int handfuls) {
        ThreadsAndSplits x = Make.under("melt 100;split(4<sour)*100;thread 50;");
        x.cheese(5, 10, 0, 20, 0);
        for (int i = 0; i < handfuls; i++) {
            x.act(2, 4 / handfuls, 0);
        }
        Make.acts(x, 1, 4, 8, 0, 0, 0);
        return x;
    }

    private static void saving() {
        ThreadsAndSplits x = soured(1);
        potIs(x, 3, 0, 80, 0, 20, 20);
        int[][] saved = {{20, 3, 10, 0}, {90, 3, 0, 1}, {5, 1, 20, 0}, {99, 3, 0, 1}, {35, 3, 5, 1}};
        for (int[] s : saved) {
            for (int what = 0; what < 3; what++) {
                due.is("21 save " + s[0] + " " + what, x.save(3, s[0], what), s[1 + what]);
            }
        }
        due.is("21 nothing to save", x.save(2, 0, 0), 1);
        due.is("21 nothing to save", x.save(0, 99, 0), 0);
        due.is("21 no such n", x.save(4, 100, 3), -5);
        due.is("21 no such n", x.save(-1, 0, 0), -5);
        due.is("21 how", x.save(3, 100, 0), -7);
        due.is("21 how", x.save(3, -1, 0), -7);
        due.is("21 what", x.save(3, 0, 3), -7);
        due.is("21 what", x.save(3, 0, -1), -7);
        due.is("24 fives", x.strokes(3, 1), 4);
        due.is("24 tens", x.strokes(3, 2), 2);
        due.is("24 fifteens", x.strokes(3, 3), 2);
        due.is("24 twenties", x.strokes(3, 4), 1);
        due.is("24 most", x.strokes(3, 9), 1);
        due.is("24 no oil", x.strokes(2, 1), 0);
        due.is("24 no such n", x.strokes(4, 0), -5);
        due.is("24 strength", x.strokes(3, 0), -7);
        due.is("24 strength", x.strokes(3, 10), -7);
    }

    private static void manyStrokes() {
        // 61 of OIL and no FREE: a stroke of 1 brings back one, sixty are not enough.
        ThreadsAndSplits x = Make.under("melt 0;split(heat<999)*50;thread 0;");
        x.cheese(1, 61, 0, 0, 0);
        Make.acts(x, 2, 2, 0, 0, 0, 0);
        potIs(x, 2, 0, 0, 31, 31, 60);
        due.is("24 sixty", x.strokes(2, 1), 60);
        x.ripen(0, 1, 62);
        potIs(x, 2, 0, 0, 31, 31, 62);
        due.is("24 more than sixty", x.strokes(2, 1), -1);
        due.is("24 half", x.strokes(2, 2), 31);
    }

    private static void reasons() {
        ThreadsAndSplits x = soured(2);
        due.is("22 the sour", x.why(4), 2);
        due.is("22 it holds", x.why(3), -1);
        due.is("22 it holds", x.why(0), -1);
        due.is("22 no such n", x.why(5), -5);
        due.is("22 no such n", x.why(-1), -5);
        due.is("22 the only handful", soured(1).why(3), 0);
        x.act(0, 0, 0);
        due.is("22 still the sour", x.why(5), 2);
        x.act(1, 4, 8);
        x.act(0, 0, 0);
        due.is("22 none alone", x.why(7), -1);
        ThreadsAndSplits y = soured(1);
        due.is("23 the pour behind", y.order(0), 1);
        due.is("23 no oil then", y.order(1), 0);
        due.is("23 bad", y.order(2), -2);
        due.is("23 bad", y.order(-1), -2);
        y.act(0, 0, 0);
        // H P A A: P and the first A exchanged, the second A still brings 20; now it is 30.
        due.is("23 less", y.order(0), 1);
        due.is("23 how much less", y.order(1), 20);
        y.forget();
        y.forget();
        due.is("23 none less", y.order(0), -1);
        due.is("23 as it is", y.order(1), 0);
        due.is("the acts stay", y.actTold(1, 0), 1);
    }

    private static void mixtures() {
        ThreadsAndSplits x = new ThreadsAndSplits();
        x.cheese(8, 30, 6, 20, 9);
        x.cheese(52, 33, 3, 12, 15);
        x.cheese(8, 30, 6, 20, 9);
        due.is("25 all of the other", x.mix(1, 2005, 0), 0);
        due.is("25 how much", x.mix(1, 2005, 1), 300);
        due.is("25 all of the one", x.mix(10, 760, 0), 7);
        due.is("25 how much", x.mix(10, 760, 1), 105);
        due.is("25 alike: the least", x.mix(0, 500, 0), 0);
        due.is("25 alike", x.mix(0, 500, 1), 45);
        due.is("25 as much", x.mix(20, 100, 0), 0);
        for (int two : new int[] {-1, -10, 3, 30, 13, 31, 100, 101, MIN, MAX}) {
            due.is("25 no such cheese comes first", x.mix(two, 0, 9), -5);
        }
        for (int how : new int[] {0, 60, 99, 100 + 61, 199, 2061, 2100, -100, -101, MIN, MAX}) {
            due.is("25 how", x.mix(1, how, 0), -7);
        }
        due.is("25 what", x.mix(1, 100, 2), -7);
        due.is("25 what", x.mix(1, 100, -1), -7);
    }

    private static void weeks() {
        ThreadsAndSplits x = Make.under("melt 100;split 0;thread(age<30)*age;");
        x.cheese(5, 10, 0, 20, 0);
        due.is("26 nothing in it", x.week(0, 0), 1);
        due.is("26 nothing in it", x.week(0, 1), 0);
        x.act(2, 3, 0);
        due.is("26 the best", x.week(0, 0), 29);
        due.is("26 how long", x.week(0, 1), 29);
        due.is("26 it stays as old", x.sortTold(0, 0), 5);
        due.is("26 no such cheese comes first", x.week(1, 2), -5);
        due.is("26 what", x.week(0, 2), -7);
        due.is("26 what", x.week(0, -1), -7);
        ThreadsAndSplits y = Make.under("melt 100;split 0;thread age*50;");
        y.cheese(5, 10, 0, 20, 0);
        y.act(2, 3, 0);
        due.is("26 the least of like ones", y.week(0, 0), 20);
        due.is("26 bounded", y.week(0, 1), 999);
        ThreadsAndSplits z = Make.under("melt 100;split 0;thread age;");
        z.cheese(5, 10, 0, 20, 0);
        z.act(2, 3, 0);
        due.is("26 up to 60", z.week(0, 0), 60);
    }

    private static void paces() {
        ThreadsAndSplits x = Make.under("melt heat;split 0;thread 0;");
        x.cheese(5, 10, 0, 10, 0);
        due.is("27 two at a time", x.pace(0, 6), 2);
        x.cheese(5, 10, 0, 0, 0);
        due.is("27 all at once", x.pace(1, 30), 30);
        due.is("27 one", x.pace(1, 1), 1);
        due.is("27 no such cheese comes first", x.pace(2, 0), -5);
        due.is("27 all", x.pace(0, 0), -7);
        due.is("27 all", x.pace(0, 31), -7);
        ThreadsAndSplits y = Make.under("melt 0;split 0;thread 0;");
        y.cheese(5, 10, 0, 10, 0);
        due.is("27 none", y.pace(0, 5), -1);
    }

    private static void tables() {
        ThreadsAndSplits x = Make.under("melt 100;split 20;thread 50;");
        x.cheese(5, 50, 5, 20, 0);
        x.act(2, 4, 0);
        due.is("28 not for a minute", x.table(2, 2, 0), 0);
        due.is("28 oil", x.table(1, 2, 3), 52);
        due.is("28 oil behind a dip", x.table(2, 2, 3), 42);
        due.is("28 always stirred", x.table(90, 1, 0), 90);
        due.is("28 thick", x.table(1, 1, 2), 38);
        due.is("28 no minute", x.table(0, 1, 0), 0);
        due.is("28 thick as it is", x.table(0, 1, 2), 30);
        due.is("29 each minute", x.dips(1, 0), 1);
        int[][] bad = {{-1, 1, 0}, {91, 1, 0}, {0, 0, 0}, {0, 31, 0}, {0, 1, -1}, {0, 1, 4}, {MAX, 1, 0}, {1, MIN, 0}};
        for (int[] b : bad) {
            due.is("28 bad", x.table(b[0], b[1], b[2]), -2);
        }
        x.act(0, 0, 0);
        due.is("28 not ahead", x.table(90, 1, 0), 0);
        due.is("29 none", x.dips(90, 999), -1);
        // From the first MINUTE on HEAT is above 60: each that is not stirred adds 1 of crust, each dip takes 2.
        ThreadsAndSplits y = Make.under("melt 0;split 0;thread 0;");
        y.cheese(5, 10, 0, 0, 0);
        y.set(0, 9);
        y.act(2, 4, 0);
        due.is("28 crust", y.table(10, 30, 1), 10);
        due.is("28 it holds", y.table(90, 30, 0), 90);
        due.is("29 no dip at all", y.dips(10, 10), 30);
        due.is("29 one dip", y.dips(10, 9), 10);
        due.is("29 every other minute", y.dips(10, 0), 2);
        int[][] worse = {{0, 0}, {91, 0}, {1, -1}, {1, 1000}, {MIN, MAX}};
        for (int[] b : worse) {
            due.is("29 bad", y.dips(b[0], b[1]), -2);
        }
        due.is("29 edges", y.dips(90, 999), 30);
        ThreadsAndSplits z = Make.under("melt 0;split(age<5)*100;thread 0;");
        z.cheese(5, 10, 0, 0, 0);
        z.act(2, 4, 0);
        due.is("29 it stays as old at the table", z.dips(90, 999), 30);
        due.is("30 it stays as old at the table", z.wick(90, 30), 9);
        z.ripen(0, 0, 4);
        due.is("29 young", z.dips(90, 999), 1);
    }

    private static void wicks() {
        ThreadsAndSplits x = Make.under("melt 100;split(70<heat)*100;thread 0;");
        x.cheese(5, 10, 0, 20, 0);
        x.act(2, 4, 0);
        due.is("30 for long", x.wick(90, 30), 6);
        due.is("30 for three", x.wick(3, 30), 7);
        due.is("30 for two", x.wick(2, 30), 8);
        due.is("30 for one", x.wick(1, 1), 9);
        due.is("30 the flame stays", x.count(0), 4);
        int[][] bad = {{0, 1}, {91, 1}, {1, 0}, {1, 31}, {MIN, 1}, {1, MAX}};
        for (int[] b : bad) {
            due.is("30 bad", x.wick(b[0], b[1]), -2);
        }
        ThreadsAndSplits y = soured(1);
        due.is("30 it holds with none", y.wick(5, 30), 9);
    }

    private static void judged() {
        ThreadsAndSplits x = halves();
        for (int sort = 0; sort < 3; sort++) {
            Make.put(x, sort, sort, 1, 3, 1, 1, 1, 1);
            due.is("31 as it is", x.judge(sort), -1);
            x.cell(sort, 5, 0);
            due.is("31 the last", x.judge(sort), 5);
            x.cell(sort, 1, 4);
            due.is("31 the first", x.judge(sort), 1);
        }
        for (int s : new int[] {-1, 4, MIN, MAX}) {
            due.is("31 bad", x.judge(s), -2);
            due.is("32 bad", x.film(s), -2);
            due.is("33 no", x.ages(0, s), NO);
            due.is("34 bad", x.which(s), -2);
        }
        due.is("31 missing", x.judge(3), -11);
        due.is("33 missing", x.ages(0, 3), NO);
        due.is("34 missing", x.which(3), -11);
        for (int size : new int[] {0, 5, 7}) {
            x.sheet(0, 2, size);
            due.is("31 size", x.judge(0), -2);
            due.is("33 size", x.ages(0, 0), NO);
            due.is("34 size", x.which(0), -2);
        }
        due.is("32 a missing one becomes it", x.film(3), 6);
        Make.put(x, 0, 2, 0, 9, 1, 1, 1, 1);
        due.is("34 the law alone", x.which(0), 2);
        due.is("32 ints", x.copy(3, 0, 0, 0, 6), 6);
        due.is("32 as the pot is", x.which(0), 2);
        x.sheet(2, 0, 3);
        due.is("32 of another sort becomes it", x.film(2), 6);
        due.is("32 ints now", x.copy(2, 0, 0, 0, 6), 6);
    }

    private static void agesAndLaws() {
        ThreadsAndSplits x = Make.under("melt 0;split(20<age)*100;thread 0;");
        x.cheese(10, 10, 0, 20, 0);
        Make.acts(x, 2, 4, 0, 0, 0, 0);
        x.film(0);
        due.is("33 the young", x.ages(0, 0), (1L << 21) - 2);
        x.ripen(0, 0, 30);
        x.film(0);
        due.is("33 the old", x.ages(0, 0), (1L << 61) - (1L << 21));
        due.is("33 it stays as old", x.sortTold(0, 0), 30);
        due.is("33 no such cheese", x.ages(1, 0), NO);
        due.is("33 no such cheese", x.ages(-1, 0), NO);
        Make.put(x, 1, 0, 0, 21);
        due.is("33 none", x.ages(0, 1), 0);
        due.is("34 none", x.which(1), 0);
        Make.put(x, 1, 0, 0, 20);
        due.is("34 this", x.which(1), 2);
        x.ripen(0, 0, 20);
        Make.put(x, 1, 1, 0, 0);
        due.is("34 both", x.which(1), 3);
        due.is("34 the law stays", x.count(6), 1);
        // Bytes are as Java has them: 200 is kept as less than 0.
        x.ripen(0, 0, 30);
        x.ripen(0, 1, 99);
        Make.put(x, 0, 0, 0, 198);
        Make.put(x, 1, 1, 0, 198 + 65536);
        due.is("34 bytes", x.which(0), 0);
        due.is("34 shorts", x.which(1), 2);
    }

    /** The lots of a seed, each less 4. */
    private static int[] lots(int seed, int many) {
        BigInteger lot = BigInteger.valueOf(seed + 1L);
        int[] all = new int[many];
        for (int i = 0; i < many; i++) {
            lot = lot.multiply(BigInteger.valueOf(48271)).mod(BigInteger.valueOf(2147483647));
            all[i] = lot.mod(BigInteger.valueOf(9)).intValue() - 4;
        }
        return all;
    }

    private static boolean hot(int seed) {
        int[] d = lots(seed, 2);
        int first = 28 + d[0];
        return first + (48 - first) / 3 + d[1] > 34;
    }

    private static void drawing() {
        ThreadsAndSplits x = Make.under("melt 0;split(34<heat)*100;thread 0;");
        x.cheese(5, 10, 0, 0, 0);
        Make.acts(x, 2, 2, 0, 0, 0, 0);
        for (int seed : new int[] {0, 1, 7, 500, 99998, 99999}) {
            int[] d = lots(seed, 2);
            int first = 28 + d[0];
            due.is("35 heat", x.drawn(1, seed, 8), first);
            due.is("35 heat", x.drawn(2, seed, 8), first + (48 - first) / 3 + d[1]);
            due.is("35 split", x.drawn(2, seed, 13), hot(seed) ? 3 : 0);
            int held = 0;
            for (int many = 1; many <= 20; many++) {
                held += hot(Math.min(99999, seed + many - 1)) ? 0 : 1;
                int by = BigInteger.valueOf(held).gcd(BigInteger.valueOf(many)).intValue();
                due.is("36 above", x.chance(seed, many, 0), held / by);
                due.is("36 below", x.chance(seed, many, 1), many / by);
            }
        }
        due.is("35 no draw", x.pot(1, 8), 28);
        due.is("35 no act", x.drawn(0, 0, 8), 20);
        due.is("35 no such n comes first", x.drawn(3, -1, 99), -5);
        for (int bad : new int[] {-1, 100000, MIN, MAX}) {
            due.is("35 seed", x.drawn(0, bad, 0), -7);
            due.is("36 seed", x.chance(bad, 1, 0), NO);
        }
        for (int bad : new int[] {-1, 14}) {
            due.is("35 what", x.drawn(0, 0, bad), -7);
        }
        for (int bad : new int[] {0, 21, MIN, MAX}) {
            due.is("36 many", x.chance(0, bad, 0), NO);
        }
        due.is("36 part", x.chance(0, 1, 2), NO);
        due.is("36 part", x.chance(0, 1, -1), NO);
    }

    private static void images() {
        ThreadsAndSplits x = new ThreadsAndSplits();
        due.is("38 none", x.back(), -3);
        x.cheese(10, 11, 12, 13, 14);
        Make.read(x, "melt 1;split 2;thread 3;");
        x.force(1);
        x.set(0, 7);
        x.set(1, 77);
        x.set(2, 5);
        x.act(1, 2, 3);
        due.is("37 image", x.image(), 1);
        x.cheese(20, 21, 22, 23, 24);
        for (int what = 0; what < 5; what++) {
            x.ripen(0, what, 90);
        }
        x.ripen(1, 0, 91);
        x.force(0);
        x.set(0, 1);
        x.set(1, 1);
        x.set(2, 1);
        x.forget();
        x.act(2, 3, 4);
        x.act(3, 3, 4);
        for (int times = 0; times < 2; times++) {
            due.is("38 cheeses", x.back(), 2);
            for (int what = 0; what < 5; what++) {
                due.is("38 as it was", x.sortTold(0, what), 10 + what);
            }
            due.is("38 what came since stays", x.sortTold(1, 0), 91);
            due.is("38 acts stay", x.count(4), 2);
            due.is("38 acts stay", x.actTold(0, 0), 2);
            due.is("38 the law", x.count(6), 1);
            due.is("38 flame, wine, sour", x.count(0) * 10000 + x.count(1) * 100 + x.count(2), 77705);
            x.ripen(0, 1, 1);
            x.set(1, 2);
        }
        due.is("37 another image", x.image(), 2);
        x.set(1, 3);
        x.back();
        due.is("38 the later one", x.count(1), 2);
        ThreadsAndSplits y = new ThreadsAndSplits();
        due.is("37 empty", y.image(), 0);
        due.is("38 empty", y.back(), 0);
    }

    private static void sheets() {
        ThreadsAndSplits x = new ThreadsAndSplits();
        for (int s : new int[] {-1, 4, MIN, MAX}) {
            due.is("39 bad comes first", x.sheet(s, 0, -1), -2);
            due.is("40 bad", x.cell(s, 0, 0), -2);
            due.is("41 bad", x.copy(s, 0, 0, 0, 0), -2);
            due.is("41 bad", x.copy(0, 0, s, 0, 0), -2);
            due.is("42 bad", x.actsBy(s, 0, 0, 0), -2);
        }
        for (int sort : new int[] {-2, 3, MIN, MAX}) {
            due.is("39 sort", x.sheet(0, sort, -1), -2);
        }
        for (int sort = 0; sort < 3; sort++) {
            due.is("39 above 40", x.sheet(sort, sort, 41), -2);
            due.is("39 below 0", x.sheet(sort, sort, -1), -14);
            due.is("39 below 0", x.sheet(sort, sort, MIN), -14);
            due.is("40 still missing", x.cell(sort, 0, 0), -11);
            due.is("39 empty", x.sheet(sort, sort, 0), 1);
            due.is("40 outside", x.cell(sort, 0, 0), -12);
            due.is("39 forty", x.sheet(sort, sort, 40), 1);
            due.is("40 last", x.cell(sort, 39, 1), 1);
            due.is("40 outside", x.cell(sort, 40, 1), -12);
            due.is("40 outside", x.cell(sort, -1, 1), -12);
            due.is("40 outside", x.cell(sort, MIN, 1), -12);
        }
        due.is("39 missing again", x.sheet(1, -1, MAX), 1);
        due.is("40 missing again", x.cell(1, 0, 0), -11);
        due.is("39 missing already", x.sheet(1, -1, MIN), 1);
        due.is("41 missing comes ahead of unlike", x.copy(0, -1, 1, 0, 0), -11);
        due.is("41 missing", x.copy(1, 0, 0, 0, 0), -11);
        due.is("41 unlike comes ahead of outside", x.copy(0, -1, 2, 0, 0), -13);
        x.sheet(1, 0, 5);
        due.is("41 all", x.copy(1, 0, 0, 35, 5), 5);
        due.is("41 none", x.copy(1, 5, 0, 40, 0), 0);
        int[][] outside = {{1, 0, 36, 5}, {1, 1, 0, 5}, {1, -1, 0, 1}, {1, 0, -1, 1}, {1, 0, 0, -1}, {1, 6, 0, 0},
            {1, 0, 41, 0}, {1, MAX, 0, 1}, {1, 0, MAX, 1}, {1, 0, 0, MAX}, {1, MAX, MAX, MAX}, {1, 0, 0, MIN}};
        for (int[] o : outside) {
            due.is("41 outside", x.copy(o[0], o[1], 0, o[2], o[3]), -12);
        }
    }

    /** What stands in a sheet of ints is seen by making acts of it. */
    private static void sheetNumbers() {
        ThreadsAndSplits x = new ThreadsAndSplits();
        Make.put(x, 0, 2, 1, 2, 3, 4, 5, 6, 7, 8, 9);
        due.is("41 onto itself", x.copy(0, 0, 0, 1, 8), 8);
        due.is("42 acts", x.actsBy(0, 2, 0, 3), 2);
        due.is("41 as they were", x.actTold(0, 0) * 100 + x.actTold(0, 1) * 10 + x.actTold(0, 2), 112);
        due.is("41 as they were", x.actTold(1, 0) * 100 + x.actTold(1, 1) * 10 + x.actTold(1, 2), 345);
        due.is("41 back onto itself", x.copy(0, 1, 0, 0, 8), 8);
        due.is("42 acts", x.actsBy(0, 2, 0, 1), 1);
        due.is("41 as they were", x.actTold(2, 0) * 100 + x.actTold(2, 1) * 10 + x.actTold(2, 2), 123);
        Make.put(x, 1, 0, 256, 513, -254);
        due.is("40 lowest 8 bits", x.actsBy(1, 0, 0, 1), 1);
        due.is("40 lowest 8 bits", x.actTold(3, 0) * 100 + x.actTold(3, 1) * 10 + x.actTold(3, 2), 12);
        Make.put(x, 1, 1, 65536, 131073, -65534);
        due.is("40 lowest 16 bits", x.actsBy(1, 1, 0, 1), 1);
        due.is("40 lowest 16 bits", x.actTold(4, 0) * 100 + x.actTold(4, 1) * 10 + x.actTold(4, 2), 12);
        Make.put(x, 1, 1, 256, 0, 0);
        due.is("40 a short is longer than a byte", x.actsBy(1, 1, 0, 1), 0);
        Make.put(x, 1, 2, 65536, 0, 0);
        due.is("40 an int is whole", x.actsBy(1, 2, 0, 1), 0);
        x.sheet(1, 2, 3);
        due.is("39 all 0", x.actsBy(1, 2, 0, 1), 1);
    }

    private static void actsOfSheets() {
        ThreadsAndSplits x = new ThreadsAndSplits();
        due.is("42 sort comes ahead of missing", x.actsBy(0, -1, 0, 1), -2);
        due.is("42 sort", x.actsBy(0, 3, 0, 1), -2);
        due.is("42 n", x.actsBy(0, 0, 0, -1), -2);
        due.is("42 n", x.actsBy(0, 0, 0, 13), -2);
        due.is("42 missing", x.actsBy(0, 0, 0, 0), -11);
        x.sheet(0, 0, 40);
        due.is("42 unlike comes ahead of outside", x.actsBy(0, 1, -1, 1), -13);
        due.is("42 outside", x.actsBy(0, 0, -1, 1), -12);
        due.is("42 outside", x.actsBy(0, 0, 38, 1), -12);
        due.is("42 outside", x.actsBy(0, 0, MAX, 12), -12);
        due.is("42 outside", x.actsBy(0, 0, MIN, 12), -12);
        due.is("42 none came", x.count(4), 0);
        due.is("42 no act", x.actsBy(0, 0, 0, 0), 0);
        due.is("42 the last three", x.actsBy(0, 0, 37, 1), 1);
        due.is("42 what stood ahead came", x.actsBy(0, 0, 35, 2), -12);
        due.is("42 what stood ahead came", x.count(4), 2);
        x.cell(0, 3, 6);
        due.is("42 others are left out", x.actsBy(0, 0, 0, 12), 10);
        due.is("42 full: left out, too", x.actsBy(0, 0, 0, 12), 0);
        due.is("42 twelve", x.count(4), 12);
        due.is("42 full, and outside", x.actsBy(0, 0, 6, 12), -12);
    }

    private static void takenFor() {
        ThreadsAndSplits x = new ThreadsAndSplits();
        due.is("43 nothing there", x.taken(0, 6), -11);
        due.is("43 nothing there", x.taken(4, 0), -11);
        x.cheese(33, 1, 1, 1, 1);
        int[] may = {0b000001, 0b000011, 0b000101, 0b001001, 0b010011, 0b101001};
        for (int kind = 0; kind < 6; kind++) {
            x.act(kind, 0, 0);
            for (int as = 0; as < 6; as++) {
                due.is("43 act " + kind + " for " + as, x.taken(4 + kind, as), (may[kind] >> as & 1) == 1 ? kind : -13);
                due.is("43 a cheese is no act", x.taken(0, as), -13);
            }
            due.is("43 no cheese", x.taken(4 + kind, 6), -13);
        }
        due.is("43 weeks", x.taken(0, 6), 33);
        due.is("43 nothing there", x.taken(1, 6), -11);
        due.is("43 nothing there", x.taken(3, 0), -11);
        due.is("43 nothing there", x.taken(10, 0), -11);
        due.is("43 nothing there", x.taken(15, 6), -11);
        for (int i : new int[] {-1, 16, MIN, MAX}) {
            due.is("43 outside", x.taken(i, 0), -12);
            due.is("43 bad comes first", x.taken(i, 7), -2);
        }
        due.is("43 bad", x.taken(0, -1), -2);
        due.is("43 bad", x.taken(0, MAX), -2);
    }

    public static void main(String[] args) {
        aNewObject();
        cheeses();
        settings();
        tape();
        texts();
        expressions();
        actList();
        pots();
        bounds();
        crusts();
        sorts();
        holdsOrNot();
        mostWine();
        saving();
        manyStrokes();
        reasons();
        mixtures();
        weeks();
        paces();
        tables();
        wicks();
        judged();
        agesAndLaws();
        drawing();
        images();
        sheets();
        sheetNumbers();
        actsOfSheets();
        takenFor();
        due.end();
    }
}
