import java.lang.reflect.Method;
import java.lang.reflect.Modifier;
import java.util.ArrayList;
import java.util.Comparator;
import java.util.List;
import java.util.Random;

/** Random calls of the face, mostly such as are not refused, and random texts for the tape. */
public final class Script {
    private static final String[] NAMES = {"heat", "sour", "starch", "water", "fat", "age"};
    private static final int[] EDGES = {Integer.MIN_VALUE, -2147483647, -101, -100, -41, -15, -14, -13, -12, -11, -6,
        -5, -4, -3, -2, -1, 0, 1, 2, 3, 4, 5, 6, 7, 8, 9, 10, 11, 12, 13, 14, 15, 16, 19, 20, 21, 29, 30, 31, 38, 39,
        40, 41, 59, 60, 61, 62, 89, 90, 91, 97, 98, 99, 100, 101, 159, 160, 161, 199, 200, 255, 256, 998, 999, 1000,
        1060, 1061, 2000, 2060, 2061, 2100, 9999, 99998, 99999, 100000, 2147483645, 2147483646, Integer.MAX_VALUE};

    final Random random;

    public Script(long seed) {
        random = new Random(seed);
    }

    /** Every method of the face, in one order. */
    static List<Method> face() {
        List<Method> all = new ArrayList<>();
        for (Method m : ThreadsAndSplits.class.getDeclaredMethods()) {
            if (Modifier.isPublic(m.getModifiers())) {
                all.add(m);
            }
        }
        all.sort(Comparator.comparing(Method::getName));
        return all;
    }

    static Integer[] boxed(int... v) {
        Integer[] a = new Integer[v.length];
        for (int i = 0; i < v.length; i++) {
            a[i] = v[i];
        }
        return a;
    }

    int below(int n) {
        return random.nextInt(n);
    }

    int from(int least, int most) {
        return least + random.nextInt(most - least + 1);
    }

    int edge() {
        return EDGES[below(EDGES.length)];
    }

    int wild() {
        return below(4) == 0 ? random.nextInt() : edge();
    }

    /** Arguments of which most are not refused. */
    Integer[] likely(String name, int acts, int cheeses) {
        int s = below(Math.max(1, cheeses));
        int n = from(acts / 2, acts);
        int deep = below(3) == 0 ? acts : n;
        switch (name) {
            case "cheese": return boxed(from(1, 70), from(0, 99), from(0, 30), from(0, 50), from(0, 99));
            case "ripen": return boxed(s, below(5), from(0, 99));
            case "sortTold": return boxed(s, below(5));
            case "set": { int what = below(3); return boxed(what, what == 1 ? below(100) : below(10)); }
            case "count": return boxed(below(8));
            case "feed": return boxed(from(1, 5), from(32, 122), from(32, 122), from(32, 122), 32, below(256));
            case "force": return boxed(below(6));
            case "act": return boxed(below(6), below(10), below(3) == 0 ? below(10) : s);
            case "actTold": return boxed(below(Math.max(1, acts)), below(5));
            case "pot": return boxed(deep, below(14));
            case "splits": case "order": return boxed(below(2));
            case "hour": return boxed(deep, below(2));
            case "odds": return boxed(below(6), below(2));
            case "save": return boxed(deep, below(100), below(3));
            case "why": return boxed(deep);
            case "strokes": return boxed(deep, from(1, 9));
            case "mix": return boxed(10 * s + below(Math.max(1, cheeses)), 100 * from(1, 20) + from(0, 60), below(2));
            case "week": return boxed(s, below(2));
            case "pace": return boxed(s, from(1, 30));
            case "table": return boxed(below(91), from(1, 30), below(4));
            case "dips": return boxed(from(1, 90), below(2) == 0 ? below(1000) : below(20));
            case "wick": return boxed(from(1, 90), from(1, 30));
            case "judge": case "film": case "which": return boxed(below(4));
            case "ages": return boxed(s, below(4));
            case "drawn": return boxed(deep, below(100000), below(14));
            case "chance": return boxed(below(100000), from(1, 20), below(2));
            case "sheet": return boxed(below(4), from(-1, 2), below(2) == 0 ? acts : below(41));
            case "cell": return boxed(below(4), below(12), below(2) == 0 ? below(10) : below(2000));
            case "copy": return boxed(below(4), below(6), below(4), below(6), below(10));
            case "actsBy": return boxed(below(4), below(3), below(6), below(13));
            case "taken": return boxed(below(16), below(7));
            default: return boxed();
        }
    }

    Integer[] anyArguments(int many) {
        Integer[] a = new Integer[many];
        for (int i = 0; i < many; i++) {
            a[i] = wild();
        }
        return a;
    }

    /** Likely ones with one of them put at, or past, an edge. */
    Integer[] oneOff(Integer[] likely) {
        if (likely.length > 0) {
            int i = below(likely.length);
            likely[i] = below(2) == 0 ? edge() : likely[i] + from(-1, 1);
        }
        return likely;
    }

    private String blank() {
        int pick = below(8);
        return pick < 5 ? " " : pick == 5 ? "\n" : pick == 6 ? "  " : "";
    }

    String one(int deep) {
        int pick = below(deep > 0 ? 8 : 5);
        if (pick < 2) {
            return String.valueOf(below(below(3) == 0 ? 10000 : 100));
        }
        if (pick < 5) {
            return NAMES[below(6)];
        }
        return pick < 7 ? "(" + blank() + any(deep - 1) + blank() + ")" : "-" + blank() + one(deep - 1);
    }

    String sum(int deep) {
        StringBuilder s = new StringBuilder(one(deep));
        for (int i = below(3); i > 0; i--) {
            s.append(blank()).append("+-*".charAt(below(3))).append(blank()).append(one(deep));
        }
        return s.toString();
    }

    String not(int deep) {
        if (deep > 0 && below(6) == 0) {
            return "not " + not(deep - 1);
        }
        return below(4) == 0 ? sum(deep) + blank() + (below(3) == 0 ? "=" : "<") + blank() + sum(deep) : sum(deep);
    }

    String any(int deep) {
        StringBuilder s = new StringBuilder(not(deep));
        for (int i = below(6) - 4; i > 0; i--) {
            s.append(below(2) == 0 ? " or " : " and ").append(not(deep));
        }
        return s.toString();
    }

    /** A text; sometimes one with a byte changed, lost or put in, or cut short. */
    String text() {
        String s = lawText();
        int pick = below(6);
        int at = below(s.length());
        String odd = below(2) == 0 ? String.valueOf((char) below(256))
            : new String[] {"(", ")", "-", "not ", "((((((", "------", "12345", "or", ";", " melt ", "x", "not not not "}[below(12)];
        if (pick == 0) {
            return s.substring(0, at) + odd + s.substring(at);
        }
        if (pick == 1) {
            return s.substring(0, at) + s.substring(at + 1);
        }
        return pick == 2 ? s.substring(0, at) : s;
    }

    /** A law by which little by little melts and goes, as random ones seldom do. */
    String mildLaw() {
        String less = below(2) == 0 ? " - " + NAMES[below(3)] : "";
        return "melt heat + sour * " + below(4) + " - " + below(30) + ";split heat - " + from(20, 60) + less
            + " ; thread " + from(20, 99) + " - age;";
    }

    String lawText() {
        String best = mildLaw();
        if (below(2) == 0) {
            return best;
        }
        for (int tries = 0; tries < 20; tries++) {
            String s = blank() + "melt " + any(below(5)) + blank() + ";" + blank() + "split " + any(below(5)) + blank()
                + ";" + blank() + "thread " + any(below(5)) + blank() + ";" + blank();
            if (s.length() <= 160) {
                return s;
            }
        }
        return best;
    }

    /** The calls of feed() that bring a text onto the tape. */
    static List<Integer[]> feeds(String text) {
        List<Integer[]> calls = new ArrayList<>();
        for (int i = 0; i < text.length(); i += 5) {
            int[] six = {Math.min(5, text.length() - i), 0, 0, 0, 0, 0};
            for (int k = 0; k < six[0]; k++) {
                six[1 + k] = text.charAt(i + k);
            }
            calls.add(boxed(six));
        }
        return calls;
    }
}
