import java.util.ArrayList;
import java.util.List;
import java.util.function.Supplier;
import java.util.function.ToLongFunction;

/**
 * Objects made alike, of which one is asked more. All that an object keeps can be told only by calls that change it,
 * so that each part is told by a fresh one.
 */
public final class Twins {
    /** The tape of a busy object; with the rest behind it, it is a law. */
    private static final String TAPE = "melt 7;spl", REST = "it 3;thread 9;";

    /** An object of which each part is unlike that of a new one, and has room yet. */
    public static ThreadsAndSplits busy() {
        ThreadsAndSplits x = Make.under("melt heat+5;split heat-30;thread 70-age;");
        x.cheese(12, 40, 3, 21, 8);
        x.cheese(31, 25, 9, 44, 17);
        x.force(0);
        x.image();
        x.force(1);
        x.cheese(50, 61, 2, 13, 4);
        x.ripen(0, 1, 44);
        x.set(0, 6);
        x.set(1, 33);
        x.set(2, 7);
        Make.acts(x, 1, 7, 3, 2, 6, 0, 0, 4, 0, 2, 3, 2, 3, 4, 0, 4, 2, 1, 5, 3, 8, 0, 5, 9);
        Make.put(x, 0, 0, 1, 2, 3, 4, 5);
        Make.put(x, 1, 1, 9, 8, 7, 6, 5, 4, 3, 2);
        Make.put(x, 2, 2, 0, 1, 2, 3, 4, 5, 6, 7, 8, 9, 0, 1);
        Make.feed(x, TAPE);
        return x;
    }

    /** A busy object that has as many cheeses, acts and texts, and as long a tape, as there may be. */
    public static ThreadsAndSplits full() {
        ThreadsAndSplits x = busy();
        x.text();
        for (int i = 2; i < 6; i++) {
            Make.read(x, "melt " + i + ";split 1;thread heat;");
        }
        x.cheese(99, 98, 1, 97, 96);
        for (int i = x.count(4); i < 12; i++) {
            x.act(i % 6, i % 10, i % 3);
        }
        Make.feed(x, TAPE + " ".repeat(150));
        return x;
    }

    private static void tellLists(ThreadsAndSplits x, List<Long> told) {
        for (int what = 0; what < 8; what++) {
            told.add((long) x.count(what));
        }
        for (int s = 0; s < 4; s++) {
            for (int what = 0; what < 5; what++) {
                told.add((long) x.sortTold(s, what));
            }
        }
        for (int a = 0; a < 12; a++) {
            for (int what = 0; what < 5; what++) {
                told.add((long) x.actTold(a, what));
            }
        }
    }

    private static void tellPots(ThreadsAndSplits x, List<Long> told) {
        for (int n = 0; n <= 12; n++) {
            for (int what = 0; what < 14; what++) {
                told.add((long) x.pot(n, what));
            }
        }
    }

    private static void tellTexts(ThreadsAndSplits x, List<Long> told) {
        for (int t = 0; t < 6; t++) {
            told.add((long) x.force(t));
            for (int what = 0; what < 5; what++) {
                told.add((long) x.pot(8, what));
            }
            told.add((long) x.pot(8, 12));
        }
    }

    private static void tellTape(ThreadsAndSplits x, List<Long> told) {
        Make.feed(x, REST);
        int t = x.text();
        told.add((long) t);
        told.add((long) x.force(t));
        tellPots(x, told);
    }

    private static void tellImage(ThreadsAndSplits x, List<Long> told) {
        told.add((long) x.back());
        tellLists(x, told);
    }

    /** The numbers 0 to 9 of a sheet, each by an act that is made of it. */
    private static void tellSheet(ThreadsAndSplits x, int s, List<Long> told) {
        while (x.forget() > 0) {
            continue;
        }
        int other = (s + 1) % 4;
        int sort = -1;
        long alike = -13;
        while (alike == -13) {
            sort++;
            x.sheet(other, sort, 3);
            alike = x.copy(s, 0, other, 0, 0);
        }
        told.add(alike);
        told.add((long) sort);
        for (int i = 0; i < 40; i++) {
            told.add((long) x.copy(s, i, other, 1, 1));
            told.add((long) x.actsBy(other, sort, 0, 1));
            told.add((long) x.actTold(0, 1));
            x.forget();
        }
    }

    /** All that an object keeps. */
    public static List<Long> all(Supplier<ThreadsAndSplits> made) {
        List<Long> told = new ArrayList<>();
        tellLists(made.get(), told);
        tellPots(made.get(), told);
        tellTexts(made.get(), told);
        tellTape(made.get(), told);
        tellImage(made.get(), told);
        for (int s = 0; s < 4; s++) {
            tellSheet(made.get(), s, told);
        }
        return told;
    }

    /** That a call answers as is due and leaves all as it is, on whatever object. */
    public static void changesNothing(Due due, Supplier<ThreadsAndSplits> made, String what, long want,
            ToLongFunction<ThreadsAndSplits> call) {
        due.is(what, call.applyAsLong(made.get()), want);
        staysAsItIs(due, made, what, call);
    }

    public static void staysAsItIs(Due due, Supplier<ThreadsAndSplits> made, String what,
            ToLongFunction<ThreadsAndSplits> call) {
        List<Long> before = all(made);
        List<Long> behind = all(() -> {
            ThreadsAndSplits x = made.get();
            call.applyAsLong(x);
            return x;
        });
        due.is(what + " changed something, as", behind.equals(before) ? 1 : 0, 1);
    }
}
