/** Promise 8, the edges alone: where a text may end, what begins a token, how deep it goes, what 32 bits hold. */
public final class BoundariesOfTextsTest {
    private static final Due due = new Due();

    private static void taken(String text) {
        ThreadsAndSplits x = new ThreadsAndSplits();
        due.is("[" + text + "]", Make.read(x, text), 1);
        due.is("texts", x.count(5), 2);
        due.is("bytes left", x.count(7), 0);
    }

    private static void fault(String text, int place) {
        ThreadsAndSplits x = new ThreadsAndSplits();
        due.is("[" + text + "]", Make.read(x, text), -100 - place);
        due.is("texts", x.count(5), 1);
        due.is("bytes left", x.count(7), 0);
    }

    /** An E as the first of a text of which the rest is in order. */
    private static void takenE(String e) {
        taken("melt " + e + ";split 0;thread 0;");
    }

    private static void faultE(String e, int place) {
        fault("melt " + e + ";split 0;thread 0;", 5 + place);
    }

    /** What an E is worth, in a pot of HEAT 20, SOUR 3, STARCH 0, WATER 20, HELD 10, AGE 5. */
    private static int worth(String e) {
        ThreadsAndSplits x = Make.under("melt 100;split 0;thread " + e + ";");
        x.set(0, 5);
        x.cheese(5, 10, 0, 50, 0);
        // HEAT 20 less 1 becomes 32.
        x.act(2, 1, 0);
        return x.pot(1, 12);
    }

    private static void holds(String e) {
        due.is(e, worth(e), 1);
    }

    // ---- the ends of a text

    static void promise08AnEmptyTapeEndsTooEarlyAt0() {
        fault("", 0);
    }

    static void promise08BlanksAloneEndTooEarlyBehindThem() {
        fault(" ", 1);
        fault(" \n \n", 4);
        fault(" ".repeat(160), 160);
    }

    static void promise08CutShortAnywhereItEndsTooEarly() {
        String whole = "melt 1 ; split 2 or 3 ; thread ( 4 < heat ) ;";
        for (int size = 0; size < whole.length(); size++) {
            String part = whole.substring(0, size);
            int word = size;
            while (word > 0 && Character.isLetter(whole.charAt(word - 1))) {
                word--;
            }
            // A word cut in two is neither key nor name: none of these begins with another one.
            boolean inside = word < size && Character.isLetter(whole.charAt(size));
            fault(part, inside ? word : size);
        }
        taken(whole);
    }

    static void promise08BlanksBehindAreOfTheSize() {
        fault("melt 1 ; split 2 ; thread 3 \n  ", 31);
        taken("melt 1 ; split 2 ; thread 3 ; \n ");
    }

    static void promise08OfItsEndNothingMayStandBehind() {
        fault("melt 1;split 2;thread 3;;", 24);
        fault("melt 1;split 2;thread 3; melt 1;split 2;thread 3;", 25);
        fault("melt 1;split 2;thread 3; 0", 25);
        fault("melt 1;split 2;thread 3;\n\0", 25);
    }

    static void promise08OneOf160BytesIsTaken() {
        String text = "melt 1;split 2;thread 3;";
        taken(text + " ".repeat(160 - text.length()));
        taken(" ".repeat(160 - text.length()) + text);
        String sum = "melt 1" + "+1".repeat(68) + ";split 2;thread 3;";
        due.is("bytes", sum.length(), 160);
        taken(sum);
        fault(sum.substring(0, 159), 159);
        fault(sum.substring(0, 159) + " ", 160);
        fault(sum.substring(0, 159) + "?", 159);
    }

    static void promise08ByAFaultTheTapeIsEmptyToo() {
        ThreadsAndSplits x = new ThreadsAndSplits();
        due.is("a fault", Make.read(x, "melt 1;split 2;thread 3"), -123);
        due.is("bytes", x.count(7), 0);
        due.is("nothing is left of it", Make.read(x, ";"), -100);
        due.is("a text", Make.read(x, "melt 1;split 2;thread 3;"), 1);
        due.is("bytes", x.count(7), 0);
        due.is("once read it isn't read again", x.text(), -100);
    }

    // ---- six texts

    private static ThreadsAndSplits sixTexts() {
        ThreadsAndSplits x = new ThreadsAndSplits();
        for (int t = 1; t < 6; t++) {
            due.is("numbered from 0 on", Make.read(x, "melt " + t + ";split 0;thread 0;"), t);
        }
        return x;
    }

    static void promise08SixAreTakenTheSeventhIsFull() {
        ThreadsAndSplits x = sixTexts();
        due.is("the seventh", Make.read(x, "melt 6;split 0;thread 0;"), -4);
        due.is("how many", x.count(5), 6);
        due.is("the tape stays", x.count(7), 24);
        due.is("and stays", x.text(), -4);
        due.is("the tape stays", x.count(7), 24);
        due.is("none is the law by that", x.count(6), 0);
    }

    static void promise08FullIsToldAheadOfTheFault() {
        ThreadsAndSplits x = sixTexts();
        due.is("an empty tape", x.text(), -4);
        due.is("a fault", Make.read(x, "melt ?"), -4);
        due.is("the tape stays", x.count(7), 6);
    }

    static void promise08AFaultTakesNoNumber() {
        ThreadsAndSplits x = new ThreadsAndSplits();
        for (int i = 0; i < 10; i++) {
            due.is("a fault", Make.read(x, "melt ;"), -105);
        }
        due.is("how many", x.count(5), 1);
        due.is("the next", Make.read(x, "melt 1;split 2;thread 3;"), 1);
    }

    static void promise08AllSixMayBeTheLaw() {
        ThreadsAndSplits x = sixTexts();
        x.cheese(1, 0, 0, 99, 0);
        Make.acts(x, 2, 9, 0);
        for (int t = 1; t < 6; t++) {
            x.force(t);
            due.is("melted by text " + t, x.pot(1, 1), 891 * t / 100);
        }
    }

    /** Two handfuls of LIME 50 and FAT 50, flame 9: HEAT 48 behind them. */
    private static ThreadsAndSplits atFirst() {
        ThreadsAndSplits x = new ThreadsAndSplits();
        x.cheese(10, 50, 0, 50, 0);
        x.set(0, 9);
        x.act(2, 2, 0);
        due.is("heat", x.pot(1, 8), 48);
        return x;
    }

    static void promise08Text0MeltsByHeatAndSourUpTo100() {
        // 48 times 2 and 3 less 20 is 79; with SOUR 9 it is 85.
        ThreadsAndSplits x = atFirst();
        due.is("79", x.pot(1, 1), 79);
        x.set(2, 9);
        due.is("85", x.pot(1, 1), 85);
        // HEAT 68: 119 is 100.
        x.act(1, 0, 0);
        due.is("all", x.pot(2, 0), 0);
        // Flame 0: HEAT 18 becomes 12, and 24 and 0 less 20 is 4; then HEAT 8, and 16 less 20 is below 0.
        x.set(0, 0);
        x.set(2, 0);
        due.is("4", x.pot(1, 1), 4);
        due.is("no more", x.pot(2, 1), 4);
    }

    static void promise08Text0SplitsByHeatLessSourAndStarchFrom0() {
        ThreadsAndSplits x = atFirst();
        due.is("48 less 56", x.pot(1, 3), 0);
        x.act(4, 1, 0);
        due.is("heat", x.pot(2, 8), 68);
        due.is("68 less 50 less 6 less 1", x.pot(2, 3), 11);
        x.set(2, 9);
        due.is("68 less 50 less 18 less 1", x.pot(2, 3), 0);
        x.set(2, 8);
        due.is("68 less 50 less 16 less 1", x.pot(2, 3), 1);
    }

    static void promise08Text0ThreadsByAgeAndHeat() {
        ThreadsAndSplits x = atFirst();
        due.is("60 less 10 and 48", x.pot(1, 12), 98);
        x.ripen(0, 0, 99);
        due.is("60 less 99 and 48", x.pot(1, 12), 9);
        x.set(0, 2);
        due.is("heat", x.pot(1, 8), 20);
        due.is("60 less 99 and 20", x.pot(1, 12), 0);
    }

    static void promise08Text0StaysWhenOthersCome() {
        ThreadsAndSplits x = sixTexts();
        x.cheese(10, 50, 0, 50, 0);
        x.set(0, 9);
        x.act(2, 2, 0);
        due.is("it is the law yet", x.pot(1, 1), 79);
        x.force(5);
        due.is("another one", x.pot(1, 1), 5);
        x.force(0);
        due.is("it is the law again", x.pot(1, 1), 79);
    }

    // ---- tokens

    static void promise08WhatEachByteMeans() {
        for (int b = 0; b < 256; b++) {
            int place = "+-*<=".indexOf(b) >= 0 ? 11 : " \n;".indexOf(b) >= 0 ? 9 : 7;
            fault("melt 1 " + (char) b + " 2;", place);
        }
    }

    static void promise08AByteThatBeginsNoTokenAtAnyPlace() {
        for (char b : new char[] {0, 1, 9, 11, 13, 31, '!', '\'', ',', '.', '/', ':', '>', '?', '@', 'A', 'Z', '[', '_',
            '`', '{', '~', 127, 128, 254, 255}) {
            fault(b + "melt 1;", 0);
            fault("melt" + b + "1;", 4);
            fault("melt 1" + b, 6);
            fault("melt 1;split 2;thread 3;" + b, 24);
        }
    }

    static void promise08WordsAreAsLongAsCanBe() {
        fault("melts 1;", 0);
        fault("mel t 1;", 0);
        fault("meltmelt 1;", 0);
        fault("a", 0);
        fault("z".repeat(160), 0);
        faultE("1 oor 2", 2);
        faultE("1 orr 2", 2);
        faultE("1 or2 or x", 9);
        faultE("nota", 0);
        faultE("heatheat", 0);
        faultE("heatz", 0);
        faultE("heata", 0);
        faultE("zheat", 0);
        faultE("hea", 0);
        faultE("heat or water and fat = agee", 24);
    }

    static void promise08EveryNameAndNoOther() {
        for (String name : new String[] {"heat", "sour", "starch", "water", "fat", "age"}) {
            takenE(name);
            faultE(name + "x", 0);
            faultE("x" + name, 0);
            faultE(name.substring(1), 0);
        }
        for (String none : new String[] {"tied", "free", "held", "drops", "oil", "crust", "wine", "flame", "minutes",
            "much", "weeks", "lime", "wet", "taste", "melt", "split", "thread", "or", "and"}) {
            faultE(none, 0);
        }
    }

    static void promise08AKeyIsNoName() {
        faultE("1 + melt", 4);
        faultE("melt", 0);
        faultE("1 thread 2", 2);
        fault("heat 1;", 0);
        fault("melt 1;melt 2;thread 3;", 7);
        fault("melt 1;thread 2;split 3;", 7);
        fault("split 1;melt 2;thread 3;", 0);
    }

    static void promise08NumbersHave4DigitsAtMost() {
        takenE("0");
        takenE("0000");
        takenE("9999");
        faultE("00000", 0);
        faultE("10000", 0);
        faultE("1 + 99999", 4);
        faultE("9".repeat(140), 0);
        due.is("four digits", worth("0999 - 1"), 998);
        due.is("four digits", worth("9999 - 9998"), 1);
    }

    static void promise08ANumberEndsWhereALetterBegins() {
        faultE("1heat", 1);
        faultE("9999heat", 4);
        takenE("1or 2and 3");
        taken("melt1;split2;thread3;");
    }

    static void promise08TwoNumbersAreNotOne() {
        faultE("99 99", 3);
        faultE("99\n99", 3);
    }

    static void promise08BlanksMayStandBetweenOrNot() {
        taken("melt(1)+2;split(1)<2;thread not(1)and 2;");
        taken("\n\n melt \n 1 \n ; \n split \n 2 \n ; thread \n 3 \n ; \n ");
    }

    static void promise08SignsStandAlone() {
        faultE("1 <= 2", 3);
        faultE("1 == 2", 3);
        faultE("1 << 2", 3);
        faultE("1 ** 2", 3);
        faultE("1 ++ 2", 3);
        takenE("1 -- 2");
        faultE("1 +- 2 -+ 3", 8);
        faultE("()", 1);
        faultE(")", 0);
        faultE("(1))", 3);
    }

    // ---- what may stand where

    static void promise08OneComparisonAtMost() {
        takenE("1 < 2");
        takenE("1 = 2");
        faultE("1 < 2 < 3", 6);
        faultE("1 < 2 = 3", 6);
        faultE("1 = 2 < 3", 6);
        faultE("1 = 2 = 3", 6);
        takenE("(1 < 2) < 3");
        takenE("1 < 2 and 2 < 3 or 3 = 4");
    }

    static void promise08ANotStandsAheadOfNoSum() {
        faultE("1 + not 2", 4);
        faultE("1 * not 2", 4);
        faultE("- not 2", 2);
        faultE("1 < not 2", 4);
        faultE("1 = not 2", 4);
        takenE("1 and not 2");
        takenE("1 + (not 2)");
        takenE("not - 2");
    }

    static void promise08NoEIsEmpty() {
        fault("melt;split 0;thread 0;", 4);
        fault("melt 0;split;thread 0;", 12);
        fault("melt 0;split 0;thread;", 21);
        faultE("1 or", 4);
        faultE("or 1", 0);
        faultE("1 and", 5);
        faultE("and 1", 0);
        faultE("not", 3);
        faultE("1 <", 3);
        faultE("< 1", 0);
        faultE("1 +", 3);
        faultE("+ 1", 0);
        faultE("1 *", 3);
        faultE("* 1", 0);
        faultE("-", 1);
        faultE("(", 1);
    }

    static void promise08AWordThatIsNoneStandsNowhere() {
        faultE("(x 1)", 1);
        faultE("- x 1", 2);
        faultE("not x 1", 4);
        faultE("1 or x 1", 5);
        faultE("1 and x 1", 6);
        faultE("1 < x 1", 4);
        faultE("1 + x 1", 4);
        faultE("1 * x 1", 4);
        faultE("1 x", 2);
        faultE("(1 x", 3);
        faultE("(1) x", 4);
        fault("x melt 1;split 2;thread 3;", 0);
        fault("melt 1 ; x split 2;", 9);
        fault("melt 1;split 2;thread 3;x", 24);
    }

    static void promise08OfSeveralFaultsTheFirstOne() {
        fault("melt 12345 ? heats", 5);
        fault("melt ? 12345", 5);
        fault("melt 1 2 ?", 7);
        fault("melt ((((((12345", 10);
        fault("split ?", 0);
    }

    // ---- five open

    static void promise08FiveParenthesesAreOpenASixthIsAFault() {
        takenE("(((((1)))))");
        faultE("((((((1))))))", 5);
        faultE("((((((", 5);
        faultE("( ( ( ( ( (", 10);
    }

    static void promise08FiveMinusesAreOpenASixthIsAFault() {
        takenE("-----1");
        faultE("------1", 5);
        faultE("- - - - - - 1", 10);
    }

    static void promise08FiveNotsAreOpenASixthIsAFault() {
        takenE("not not not not not 1");
        faultE("not not not not not not 1", 20);
    }

    static void promise08AllThreeAreCountedTogether() {
        takenE("not not (-(1))");
        faultE("not not (-((1)))", 11);
        faultE("(((((-1)))))", 5);
        faultE("(((((not 1)))))", 5);
        faultE("-----(1)", 5);
        faultE("not not not not not (1)", 20);
        faultE("not not not not not -1", 20);
        takenE("not (not (not 1))");
        faultE("not (not (not (1)))", 14);
    }

    static void promise08AParenthesisIsOpenTillItIsClosed() {
        takenE("(((((1)))))+(((((1)))))");
        takenE("((((1)+(2))))*-1");
        takenE("(((((1)+(2)))))");
        faultE("(((((1+(2))))))", 7);
        takenE("((((1))))*((((1))))");
        faultE("(1)+((((((1))))))", 9);
    }

    static void promise08AMinusIsOpenTillItsOneEnds() {
        takenE("-----1+-----1");
        takenE("-----1*-----1");
        takenE("-----1*(1)");
        takenE("----(1)*(((((1)))))");
        faultE("----(-1)", 5);
        takenE("---(-1)");
    }

    static void promise08ANotIsOpenTillWhatItBelongsToEnds() {
        takenE("not not not not not 1 or not not not not not 1");
        takenE("not not not not not 1 and (1)");
        takenE("not not not not not 1 or (((((1)))))");
        faultE("not not not not not 1<(2)", 22);
        faultE("not not not not not 1=-2", 22);
        faultE("not not not not not 1+(2)", 22);
        faultE("not not not not not 1*-2", 22);
        takenE("not not not not(1)<(2)");
        takenE("not not not not(1)+-2");
    }

    static void promise08AMinusBetweenIsNeverOpen() {
        takenE("(((((1-2-3-4-5-6-7)))))");
        takenE("-----1-2-3-4-5-6-7");
        takenE("not not not not not 1-2");
        faultE("(((((1--2)))))", 7);
        takenE("((((1--2))))");
    }

    // ---- what an E is worth

    static void promise08WhatIsNot0IsTrue() {
        due.is("2 or 0", worth("2 or 0"), 1);
        due.is("0 or 2", worth("0 or 2"), 1);
        due.is("-1 or 0", worth("-1 or 0"), 1);
        due.is("0 or 0", worth("(0 or 0) + 5"), 5);
        due.is("2 and 3", worth("2 and 3"), 1);
        due.is("-2 and -3", worth("-2 and -3"), 1);
        due.is("1 and 2", worth("1 and 2"), 1);
        due.is("2 and 0", worth("(2 and 0) + 5"), 5);
        due.is("0 and 2", worth("(0 and 2) + 5"), 5);
        due.is("not 0", worth("not 0"), 1);
        due.is("not 2", worth("(not 2) + 5"), 5);
        due.is("not -1", worth("(not -1) + 5"), 5);
    }

    static void promise08LessAndLikeAtTheirEdge() {
        due.is("1 < 2", worth("1 < 2"), 1);
        due.is("2 < 2", worth("(2 < 2) + 5"), 5);
        due.is("3 < 2", worth("(3 < 2) + 5"), 5);
        due.is("2 = 2", worth("2 = 2"), 1);
        due.is("2 = 1", worth("(2 = 1) + 5"), 5);
        due.is("2 = 3", worth("(2 = 3) + 5"), 5);
        due.is("-1 < 0", worth("-1 < 0"), 1);
        due.is("0 < -1", worth("(0 < -1) + 5"), 5);
    }

    /** The greatest int, said by numbers of four digits. */
    private static final String MOST = "(9268*9268*25+9999*8+8055)";

    static void promise08SumsWrapAround() {
        holds("0<" + MOST);
        holds(MOST + "-2147*1000*1000=9999*48+3695");
        holds(MOST + "+1<0");
        holds("-" + MOST + "<0");
        holds("0-" + MOST + "-1<0");
        holds("0<0-" + MOST + "-2");
        holds(MOST + "+1=0-" + MOST + "-1");
    }

    static void promise08ProductsWrapAround() {
        due.is("2099580021", worth("9999*9999*21<0"), 0);
        holds("9999*9999*22<0");
        holds("9999*9999*22=0-2095*1000*1000-407*1000-274");
        due.is("2 to the 32", worth("4096*4096*256+7"), 7);
        holds("4096*4096*128<0");
    }

    static void promise08TheLeastIntIsItsOwnNegative() {
        holds("-(4096*4096*128)=4096*4096*128");
        holds("-(4096*4096*128)<0");
        holds("0<4096*4096*128-1");
    }

    static void promise08LessIsNoDifference() {
        // The difference of these two wraps around; what is less stays less.
        holds("-" + MOST + "<" + MOST);
        due.is("the other way", worth(MOST + "<-" + MOST), 0);
        holds("4096*4096*128<1");
        due.is("the other way", worth("1<4096*4096*128"), 0);
    }

    static void promise08TheDeepestThatFitsIsWorthWhatItSays() {
        String e = "0 or 1 and 1<1+1*(0 or 1 and 1<1+1*(0 or 1 and 1<1+1*(0 or 1 and 1<1+1*(0 or 1 and 1<1+1*"
            + "(0 or 1 and 1<1+1*1)))))";
        holds(e);
        due.is("the other way", worth(e.replace("1*1)", "1*0)")), 0);
    }

    static void promise08TheLongestSumIsWorthWhatItSays() {
        due.is("a sum", worth("1" + "+1".repeat(67)), 68);
        due.is("a chain", worth("1" + "-1".repeat(33) + "+1".repeat(34)), 2);
        due.is("a product", worth("2" + "*2".repeat(8)), 512);
    }

    public static void main(String[] args) {
        Named.run(BoundariesOfTextsTest.class, due, 8);
    }
}
