/** Objects brought to where a test wants them: under a law, with acts, with sheets. */
public final class Make {
    /** What text() answers to a text that is fed whole. */
    public static int read(ThreadsAndSplits x, String text) {
        feed(x, text);
        return x.text();
    }

    public static void feed(ThreadsAndSplits x, String text) {
        for (Integer[] f : Script.feeds(text)) {
            x.feed(f[0], f[1], f[2], f[3], f[4], f[5]);
        }
    }

    /** A new object with a law of its own in force. */
    public static ThreadsAndSplits under(String law) {
        ThreadsAndSplits x = new ThreadsAndSplits();
        int read = read(x, law);
        if (read != 1) {
            throw new IllegalStateException("the test's own law answers " + read + ": " + law);
        }
        x.force(1);
        return x;
    }

    public static void acts(ThreadsAndSplits x, int... threes) {
        for (int i = 0; i < threes.length; i += 3) {
            x.act(threes[i], threes[i + 1], threes[i + 2]);
        }
    }

    /** A sheet of a sort with these numbers. */
    public static void put(ThreadsAndSplits x, int s, int sort, int... numbers) {
        x.sheet(s, sort, numbers.length);
        for (int i = 0; i < numbers.length; i++) {
            x.cell(s, i, numbers[i]);
        }
    }
}
