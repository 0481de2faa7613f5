import java.util.function.Supplier;
import java.util.function.ToLongFunction;

/**
 * Each refusal of each promise, on a busy object and on a full one: it answers as is due and changes nothing at all.
 * And each question, asked with the edges of what it takes, changes nothing.
 */
public final class ChangesNothingTest {
    private static final int MIN = Integer.MIN_VALUE, MAX = Integer.MAX_VALUE;
    private static final long NO = -4611686018427387904L;
    private static final Due due = new Due();

    /** Busy: 3 cheeses, 8 acts, 2 texts, 10 bytes; sheets of 5 bytes, 8 shorts, 12 ints, and a missing one. */
    private static void busyRefuses(String what, long want, ToLongFunction<ThreadsAndSplits> call) {
        Twins.changesNothing(due, Twins::busy, what, want, call);
    }

    /** Full: 4 cheeses, 12 acts, 6 texts, 160 bytes; sheets as of a busy one. */
    private static void fullRefuses(String what, long want, ToLongFunction<ThreadsAndSplits> call) {
        Twins.changesNothing(due, Twins::full, what, want, call);
    }

    private static void asks(String what, ToLongFunction<ThreadsAndSplits> call) {
        Twins.staysAsItIs(due, Twins::busy, what + " of a busy one", call);
        Twins.staysAsItIs(due, Twins::full, what + " of a full one", call);
        Twins.staysAsItIs(due, ThreadsAndSplits::new, what + " of a new one", call);
    }

    static void promise01TheTwinsTellWhatChanges() {
        // Else all that follows would say nothing.
        Supplier<ThreadsAndSplits> busy = Twins::busy;
        seen("a cheese", busy, x -> x.cheese(1, 1, 1, 1, 1));
        seen("weeks", busy, x -> x.ripen(0, 0, 13));
        seen("taste", busy, x -> x.ripen(2, 4, 5));
        seen("flame", busy, x -> x.set(0, 5));
        seen("wine", busy, x -> x.set(1, 34));
        seen("sour", busy, x -> x.set(2, 6));
        seen("a blank on the tape", busy, x -> x.feed(1, 32, 32, 32, 32, 32));
        seen("the tape read", busy, x -> x.text());
        seen("the law", busy, x -> x.force(0));
        seen("an act", busy, x -> x.act(0, 0, 0));
        seen("an act less", busy, x -> x.forget());
        seen("another image", busy, x -> x.image());
        seen("the image back", busy, x -> x.back());
        seen("a film on a missing sheet", busy, x -> x.film(3));
        seen("a film on bytes", busy, x -> x.film(0));
        for (int s = 0; s < 4; s++) {
            int sheet = s;
            seen("a new sheet", busy, x -> x.sheet(sheet, 1, 4));
        }
        seen("a byte", busy, x -> x.cell(0, 4, 6));
        seen("a short", busy, x -> x.cell(1, 7, 3));
        seen("an int", busy, x -> x.cell(2, 11, 2));
        seen("a copy", busy, x -> x.copy(2, 1, 2, 0, 1));
        seen("acts of a sheet", busy, x -> x.actsBy(0, 0, 0, 1));
    }

    private static void seen(String what, Supplier<ThreadsAndSplits> made, ToLongFunction<ThreadsAndSplits> call) {
        boolean alike = Twins.all(made).equals(Twins.all(() -> {
            ThreadsAndSplits x = made.get();
            call.applyAsLong(x);
            return x;
        }));
        due.is(what + " is seen", alike ? 0 : 1, 1);
    }

    static void promise02Cheese() {
        busyRefuses("weeks below", -2, x -> x.cheese(0, 1, 1, 1, 1));
        busyRefuses("weeks above", -2, x -> x.cheese(100, 1, 1, 1, 1));
        busyRefuses("taste below", -2, x -> x.cheese(1, 1, 1, 1, -1));
        busyRefuses("taste above", -2, x -> x.cheese(1, 1, 1, 1, 100));
        fullRefuses("full", -4, x -> x.cheese(1, 1, 1, 1, 1));
        fullRefuses("bad and full", -2, x -> x.cheese(1, 100, 1, 1, 1));
    }

    static void promise03Ripen() {
        busyRefuses("no such cheese", -5, x -> x.ripen(3, 0, 1));
        busyRefuses("below", -5, x -> x.ripen(-1, 0, 1));
        fullRefuses("no such cheese", -5, x -> x.ripen(4, 0, 1));
        busyRefuses("what below", -7, x -> x.ripen(0, -1, 1));
        busyRefuses("what above", -7, x -> x.ripen(0, 5, 1));
        busyRefuses("weeks 0", -7, x -> x.ripen(0, 0, 0));
        for (int what = 0; what < 5; what++) {
            int w = what;
            busyRefuses("v above", -7, x -> x.ripen(2, w, 100));
            busyRefuses("v below", -7, x -> x.ripen(2, w, -1));
        }
    }

    static void promise04SortTold() {
        asks("weeks", x -> x.sortTold(0, 0));
        asks("taste", x -> x.sortTold(3, 4));
        busyRefuses("no such cheese", -5, x -> x.sortTold(3, 0));
        busyRefuses("what", -7, x -> x.sortTold(0, 5));
    }

    static void promise05Set() {
        busyRefuses("what below", -1, x -> x.set(-1, 1));
        busyRefuses("what above", -1, x -> x.set(3, 1));
        for (int what = 0; what < 3; what++) {
            int w = what;
            busyRefuses("v below", -2, x -> x.set(w, -1));
            busyRefuses("v above", -2, x -> x.set(w, w == 1 ? 100 : 10));
        }
    }

    static void promise06Count() {
        for (int what = -1; what <= 8; what++) {
            int w = what;
            asks("count(" + w + ")", x -> x.count(w));
        }
    }

    static void promise07Feed() {
        busyRefuses("none", -2, x -> x.feed(0, 32, 32, 32, 32, 32));
        busyRefuses("six", -2, x -> x.feed(6, 32, 32, 32, 32, 32));
        busyRefuses("the last byte", -2, x -> x.feed(1, 32, 32, 32, 32, 256));
        busyRefuses("the first byte", -2, x -> x.feed(5, -1, 32, 32, 32, 32));
        fullRefuses("full", -4, x -> x.feed(1, 32, 32, 32, 32, 32));
        Twins.changesNothing(due, () -> {
            ThreadsAndSplits x = Twins.busy();
            Make.feed(x, " ".repeat(146));
            return x;
        }, "room for 4", -4, x -> x.feed(5, 32, 32, 32, 32, 32));
    }

    static void promise08Text() {
        fullRefuses("full", -4, x -> x.text());
    }

    static void promise09Force() {
        busyRefuses("below", -2, x -> x.force(-1));
        busyRefuses("above", -2, x -> x.force(2));
        fullRefuses("above", -2, x -> x.force(6));
        busyRefuses("the least int", -2, x -> x.force(MIN));
    }

    static void promise10Act() {
        busyRefuses("kind below", -2, x -> x.act(-1, 1, 1));
        busyRefuses("kind above", -2, x -> x.act(6, 1, 1));
        busyRefuses("more below", -2, x -> x.act(1, -1, 1));
        busyRefuses("more above", -2, x -> x.act(1, 10, 1));
        busyRefuses("of below", -2, x -> x.act(1, 1, -1));
        busyRefuses("of above", -2, x -> x.act(1, 1, 10));
        fullRefuses("full", -4, x -> x.act(1, 1, 1));
        fullRefuses("bad and full", -2, x -> x.act(6, 1, 1));
    }

    static void promise11Forget() {
        Twins.changesNothing(due, ThreadsAndSplits::new, "none", -3, x -> x.forget());
        Twins.changesNothing(due, () -> {
            ThreadsAndSplits x = Twins.busy();
            while (x.forget() > 0) {
                continue;
            }
            return x;
        }, "none any more", -3, x -> x.forget());
    }

    static void promise12ActTold() {
        asks("kind", x -> x.actTold(0, 0));
        asks("stirred", x -> x.actTold(11, 4));
        busyRefuses("no such act", -5, x -> x.actTold(8, 0));
        busyRefuses("what", -7, x -> x.actTold(0, 5));
    }

    static void promise13Pot() {
        for (int n : new int[] {-1, 0, 8, 12, 13}) {
            for (int what : new int[] {-1, 0, 8, 11, 12, 13, 14}) {
                asks("pot(" + n + ", " + what + ")", x -> x.pot(n, what));
            }
        }
        busyRefuses("n", -5, x -> x.pot(9, 0));
        busyRefuses("what", -7, x -> x.pot(8, 14));
    }

    static void promise14Splits() {
        for (int what = -1; what <= 2; what++) {
            int w = what;
            asks("splits(" + w + ")", x -> x.splits(w));
        }
        busyRefuses("bad", -2, x -> x.splits(2));
    }

    static void promise15Hour() {
        for (int what = 0; what < 2; what++) {
            int w = what;
            asks("hour(0, " + w + ")", x -> x.hour(0, w));
            asks("hour(8, " + w + ")", x -> x.hour(8, w));
        }
        busyRefuses("n", -5, x -> x.hour(9, 0));
        busyRefuses("what", -7, x -> x.hour(8, 2));
    }

    static void promise16Flames() {
        asks("flames()", x -> x.flames());
    }

    static void promise17Sours() {
        asks("sours()", x -> x.sours());
    }

    static void promise18Region() {
        asks("region()", x -> x.region());
    }

    static void promise19Most() {
        asks("most()", x -> x.most());
    }

    static void promise20Odds() {
        asks("odds(0, 0)", x -> x.odds(0, 0));
        asks("odds(5, 1)", x -> x.odds(5, 1));
        busyRefuses("off", NO, x -> x.odds(6, 0));
        busyRefuses("part", NO, x -> x.odds(5, 2));
    }

    static void promise21Save() {
        for (int how : new int[] {0, 9, 20, 90, 99}) {
            for (int what = 0; what < 3; what++) {
                int w = what;
                asks("save(8, " + how + ", " + w + ")", x -> x.save(8, how, w));
                asks("save(12, " + how + ", " + w + ")", x -> x.save(12, how, w));
            }
        }
        busyRefuses("n", -5, x -> x.save(9, 0, 0));
        busyRefuses("how", -7, x -> x.save(8, 100, 0));
        busyRefuses("what", -7, x -> x.save(8, 0, 3));
    }

    static void promise22Why() {
        asks("why(0)", x -> x.why(0));
        asks("why(8)", x -> x.why(8));
        asks("why(12)", x -> x.why(12));
        busyRefuses("n", -5, x -> x.why(9));
    }

    static void promise23Order() {
        asks("order(0)", x -> x.order(0));
        asks("order(1)", x -> x.order(1));
        busyRefuses("bad", -2, x -> x.order(2));
    }

    static void promise24Strokes() {
        asks("strokes(8, 1)", x -> x.strokes(8, 1));
        asks("strokes(12, 9)", x -> x.strokes(12, 9));
        busyRefuses("n", -5, x -> x.strokes(9, 1));
        busyRefuses("strength", -7, x -> x.strokes(8, 10));
    }

    static void promise25Mix() {
        asks("mix(1, 2060, 0)", x -> x.mix(1, 2060, 0));
        asks("mix(22, 100, 1)", x -> x.mix(22, 100, 1));
        busyRefuses("cheeses", -5, x -> x.mix(3, 100, 0));
        busyRefuses("how", -7, x -> x.mix(0, 2061, 0));
        busyRefuses("what", -7, x -> x.mix(0, 100, 2));
    }

    static void promise26Week() {
        asks("week(0, 0)", x -> x.week(0, 0));
        asks("week(2, 1)", x -> x.week(2, 1));
        asks("week(3, 0)", x -> x.week(3, 0));
        busyRefuses("cheese", -5, x -> x.week(3, 0));
        busyRefuses("what", -7, x -> x.week(0, 2));
    }

    static void promise27Pace() {
        asks("pace(0, 30)", x -> x.pace(0, 30));
        asks("pace(2, 1)", x -> x.pace(2, 1));
        busyRefuses("cheese", -5, x -> x.pace(3, 1));
        busyRefuses("all", -7, x -> x.pace(0, 31));
    }

    static void promise28Table() {
        for (int what = 0; what < 4; what++) {
            int w = what;
            asks("table(90, 1, " + w + ")", x -> x.table(90, 1, w));
            asks("table(0, 30, " + w + ")", x -> x.table(0, 30, w));
        }
        busyRefuses("minutes", -2, x -> x.table(91, 1, 0));
        busyRefuses("every", -2, x -> x.table(90, 31, 0));
        busyRefuses("what", -2, x -> x.table(90, 30, 4));
    }

    static void promise29Dips() {
        asks("dips(90, 999)", x -> x.dips(90, 999));
        asks("dips(1, 0)", x -> x.dips(1, 0));
        busyRefuses("minutes", -2, x -> x.dips(91, 0));
        busyRefuses("crust", -2, x -> x.dips(90, 1000));
    }

    static void promise30Wick() {
        asks("wick(90, 1)", x -> x.wick(90, 1));
        asks("wick(1, 30)", x -> x.wick(1, 30));
        busyRefuses("minutes", -2, x -> x.wick(91, 1));
        busyRefuses("every", -2, x -> x.wick(90, 31));
    }

    static void promise31Judge() {
        for (int s = 0; s < 4; s++) {
            int sheet = s;
            asks("judge(" + s + ")", x -> x.judge(sheet));
        }
        busyRefuses("sheet", -2, x -> x.judge(4));
        busyRefuses("missing", -11, x -> x.judge(3));
        busyRefuses("size", -2, x -> x.judge(0));
        // Of a full one the sheet of twelve is as long as the acts.
        Twins.staysAsItIs(due, Twins::full, "judge(2)", x -> x.judge(2));
    }

    static void promise32Film() {
        busyRefuses("below", -2, x -> x.film(-1));
        busyRefuses("above", -2, x -> x.film(4));
        busyRefuses("the greatest int", -2, x -> x.film(MAX));
    }

    static void promise33Ages() {
        asks("ages(0, 2)", x -> x.ages(0, 2));
        asks("ages(3, 2)", x -> x.ages(3, 2));
        busyRefuses("cheese", NO, x -> x.ages(3, 2));
        busyRefuses("sheet", NO, x -> x.ages(0, 4));
        busyRefuses("missing", NO, x -> x.ages(0, 3));
        busyRefuses("size", NO, x -> x.ages(0, 0));
        Twins.staysAsItIs(due, () -> {
            ThreadsAndSplits x = Twins.busy();
            x.film(3);
            return x;
        }, "ages as it is", x -> x.ages(1, 3));
    }

    static void promise34Which() {
        asks("which(2)", x -> x.which(2));
        busyRefuses("sheet", -2, x -> x.which(-1));
        busyRefuses("missing", -11, x -> x.which(3));
        busyRefuses("size", -2, x -> x.which(0));
        Twins.staysAsItIs(due, () -> {
            ThreadsAndSplits x = Twins.busy();
            x.film(3);
            return x;
        }, "which as it is", x -> x.which(3));
    }

    static void promise35Drawn() {
        for (int what : new int[] {0, 8, 13}) {
            asks("drawn(8, 0, " + what + ")", x -> x.drawn(8, 0, what));
            asks("drawn(12, 99999, " + what + ")", x -> x.drawn(12, 99999, what));
        }
        busyRefuses("n", -5, x -> x.drawn(9, 0, 0));
        busyRefuses("seed", -7, x -> x.drawn(8, 100000, 0));
        busyRefuses("what", -7, x -> x.drawn(8, 0, 14));
    }

    static void promise36Chance() {
        asks("chance(0, 20, 0)", x -> x.chance(0, 20, 0));
        asks("chance(99999, 20, 1)", x -> x.chance(99999, 20, 1));
        busyRefuses("seed", NO, x -> x.chance(100000, 1, 0));
        busyRefuses("many", NO, x -> x.chance(0, 21, 0));
        busyRefuses("part", NO, x -> x.chance(0, 20, 2));
    }

    static void promise37AnImageIsAsItIs() {
        Twins.changesNothing(due, () -> {
            ThreadsAndSplits x = Twins.busy();
            x.image();
            return x;
        }, "the same image again", 3, x -> x.image());
    }

    static void promise38Back() {
        Twins.changesNothing(due, ThreadsAndSplits::new, "no image", -3, x -> x.back());
        Twins.changesNothing(due, () -> {
            ThreadsAndSplits x = Twins.busy();
            x.back();
            return x;
        }, "back once more", 3, x -> x.back());
    }

    static void promise39Sheet() {
        busyRefuses("sheet below", -2, x -> x.sheet(-1, 0, 1));
        busyRefuses("sheet above", -2, x -> x.sheet(4, 0, 1));
        for (int s = 0; s < 4; s++) {
            int sheet = s;
            busyRefuses("sort below", -2, x -> x.sheet(sheet, -2, 1));
            busyRefuses("sort above", -2, x -> x.sheet(sheet, 3, 1));
            busyRefuses("n above", -2, x -> x.sheet(sheet, 1, 41));
            busyRefuses("n below", -14, x -> x.sheet(sheet, 1, -1));
        }
        busyRefuses("missing already", 1, x -> x.sheet(3, -1, 5));
    }

    static void promise40Cell() {
        busyRefuses("sheet below", -2, x -> x.cell(-1, 0, 7));
        busyRefuses("sheet above", -2, x -> x.cell(4, 0, 7));
        busyRefuses("missing", -11, x -> x.cell(3, 0, 7));
        int[] sizes = {5, 8, 12};
        for (int s = 0; s < 3; s++) {
            int sheet = s;
            busyRefuses("place below", -12, x -> x.cell(sheet, -1, 7));
            busyRefuses("place above", -12, x -> x.cell(sheet, sizes[sheet], 7));
            busyRefuses("the greatest int", -12, x -> x.cell(sheet, MAX, 7));
        }
    }

    static void promise41Copy() {
        busyRefuses("from no sheet", -2, x -> x.copy(4, 0, 0, 0, 1));
        busyRefuses("to no sheet", -2, x -> x.copy(0, 0, 4, 0, 1));
        busyRefuses("from a missing one", -11, x -> x.copy(3, 0, 0, 0, 1));
        busyRefuses("to a missing one", -11, x -> x.copy(0, 0, 3, 0, 1));
        busyRefuses("unlike", -13, x -> x.copy(0, 0, 1, 0, 1));
        busyRefuses("unlike", -13, x -> x.copy(1, 0, 2, 0, 1));
        busyRefuses("one too many from", -12, x -> x.copy(2, 1, 2, 0, 12));
        busyRefuses("one too many to", -12, x -> x.copy(2, 0, 2, 1, 12));
        busyRefuses("n below 0", -12, x -> x.copy(2, 1, 2, 0, -1));
        busyRefuses("place below", -12, x -> x.copy(2, -1, 2, 0, 1));
        busyRefuses("place below", -12, x -> x.copy(2, 0, 2, -1, 1));
        busyRefuses("none", 0, x -> x.copy(2, 3, 2, 0, 0));
        busyRefuses("onto the same place", 12, x -> x.copy(2, 0, 2, 0, 12));
    }

    static void promise42ActsBy() {
        busyRefuses("sheet", -2, x -> x.actsBy(4, 0, 0, 1));
        busyRefuses("sort below", -2, x -> x.actsBy(0, -1, 0, 1));
        busyRefuses("sort above", -2, x -> x.actsBy(0, 3, 0, 1));
        busyRefuses("n below", -2, x -> x.actsBy(0, 0, 0, -1));
        busyRefuses("n above", -2, x -> x.actsBy(0, 0, 0, 13));
        busyRefuses("missing", -11, x -> x.actsBy(3, 0, 0, 1));
        busyRefuses("unlike", -13, x -> x.actsBy(0, 1, 0, 1));
        busyRefuses("place below", -12, x -> x.actsBy(0, 0, -1, 1));
        busyRefuses("place above", -12, x -> x.actsBy(0, 0, 3, 1));
        busyRefuses("left out", 0, x -> x.actsBy(1, 1, 0, 1));
        fullRefuses("all left out", 0, x -> x.actsBy(2, 2, 0, 4));
        busyRefuses("none", 0, x -> x.actsBy(0, 0, 0, 0));
    }

    static void promise43Taken() {
        asks("taken(0, 6)", x -> x.taken(0, 6));
        asks("taken(4, 0)", x -> x.taken(4, 0));
        asks("taken(15, 5)", x -> x.taken(15, 5));
        busyRefuses("kind", -2, x -> x.taken(0, 7));
        busyRefuses("place", -12, x -> x.taken(16, 0));
        busyRefuses("nothing there", -11, x -> x.taken(3, 6));
        busyRefuses("another kind", -13, x -> x.taken(0, 0));
    }

    public static void main(String[] args) {
        int[] all = new int[43];
        for (int i = 0; i < all.length; i++) {
            all[i] = i + 1;
        }
        Named.run(ChangesNothingTest.class, due, all);
    }
}
