import java.lang.management.ManagementFactory;
import java.lang.reflect.InvocationTargetException;
import java.lang.reflect.Method;
import java.util.ArrayList;
import java.util.Arrays;
import java.util.List;

/**
 * No call throws or fails to end, whatever its arguments and whatever came before; and what 512 calls make stays
 * small, though all of it is counted.
 */
public final class AnyArgumentsTest {
    private static final int RUNS = 400;
    private static final long MOST_BYTES_MADE = 64 * 1024;
    private static final long MOST_MILLIS = 60_000;

    private static final List<Method> FACE = Script.face();

    private static void ask(ThreadsAndSplits x, Method m, Integer[] args) throws Exception {
        long began = System.nanoTime();
        try {
            m.invoke(x, (Object[]) args);
        } catch (InvocationTargetException e) {
            System.out.println(m.getName() + Arrays.toString(args) + " threw " + e.getCause());
            System.exit(1);
        }
        if ((System.nanoTime() - began) / 1_000_000 > MOST_MILLIS) {
            System.out.println(m.getName() + Arrays.toString(args) + " took too long");
            System.exit(1);
        }
    }

    private static void anyRun(Script script) throws Exception {
        ThreadsAndSplits x = new ThreadsAndSplits();
        for (int i = 0; i < 512; i++) {
            Method m = FACE.get(script.below(FACE.size()));
            ask(x, m, script.below(3) == 0 ? script.anyArguments(m.getParameterCount())
                : script.oneOff(script.likely(m.getName(), x.count(4), x.count(3))));
        }
    }

    /** A pot with all that there may be in it. */
    private static ThreadsAndSplits full(Script script) {
        ThreadsAndSplits x = new ThreadsAndSplits();
        for (int i = 0; i < 4; i++) {
            x.cheese(99, 99, 99, 99, 99);
        }
        x.act(2, 9, 0);
        for (int i = 1; i < 12; i++) {
            x.act(script.below(2) == 0 ? 0 : 3, 9, 0);
        }
        return x;
    }

    private static List<Integer[]> dearFeeds() {
        StringBuilder text = new StringBuilder("melt ");
        while (text.length() < 158) {
            text.append("1+");
        }
        return Script.feeds(text.append("1").toString());
    }

    private static void smallRoom(Script script) throws Exception {
        com.sun.management.ThreadMXBean meter =
            (com.sun.management.ThreadMXBean) ManagementFactory.getThreadMXBean();
        List<Integer[]> feeds = dearFeeds();
        long thread = Thread.currentThread().getId();
        meter.getThreadAllocatedBytes(thread);
        long before = meter.getThreadAllocatedBytes(thread);
        ThreadsAndSplits x = full(script);
        long made = meter.getThreadAllocatedBytes(thread) - before;
        for (int calls = 16; calls + feeds.size() + 1 <= 512; calls += feeds.size() + 1) {
            before = meter.getThreadAllocatedBytes(thread);
            for (Integer[] f : feeds) {
                x.feed(f[0], f[1], f[2], f[3], f[4], f[5]);
            }
            x.text();
            made += meter.getThreadAllocatedBytes(thread) - before;
        }
        ThreadsAndSplits y = full(script);
        before = meter.getThreadAllocatedBytes(thread);
        for (int i = 0; i < 40; i++) {
            y.region();
            y.week(0, 0);
            y.film(0);
            y.ages(0, 0);
            y.which(0);
            y.dips(90, 0);
            y.mix(0, 2060, 0);
            y.chance(0, 20, 0);
            y.image();
            y.back();
            y.sheet(1, 2, 40);
        }
        made += meter.getThreadAllocatedBytes(thread) - before;
        if (made > MOST_BYTES_MADE) {
            System.out.println("two runs made " + made + " bytes");
            System.exit(1);
        }
        System.out.println("two runs made " + made + " bytes");
    }

    /** Calls with any arguments at all on an object that nothing was asked of yet, and on a full one. */
    private static void edges(Script script) throws Exception {
        List<ThreadsAndSplits> objects = new ArrayList<>(List.of(new ThreadsAndSplits(), full(script)));
        for (ThreadsAndSplits x : objects) {
            for (Method m : FACE) {
                for (int i = 0; i < 200; i++) {
                    ask(x, m, script.anyArguments(m.getParameterCount()));
                }
            }
        }
    }

    public static void main(String[] args) throws Exception {
        Script script = new Script(20261118);
        smallRoom(script);
        edges(script);
        for (int i = 0; i < RUNS; i++) {
            anyRun(script);
        }
        System.out.println(RUNS + " runs ended");
    }
}
