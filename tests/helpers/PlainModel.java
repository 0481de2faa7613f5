import java.util.ArrayList;
import java.util.List;
import java.util.function.ToIntFunction;
import java.util.function.ToLongFunction;

/**
 * The document said once more, as plainly and as slowly as can be, to hold the class against: every question
 * cooks its pot anew, laws are trees, and nothing is kept between calls but what the document keeps.
 */
public final class PlainModel {
    static final int NONE = -1, BAD = -2, STATE = -3, FULL = -4;
    static final long NO = -4611686018427387904L;

    record Act(int kind, int more, int of) { }

    record Law(ToIntFunction<Pot> melt, ToIntFunction<Pot> split, ToIntFunction<Pot> thread) { }

    record Image(List<int[]> cheeses, int flame, int wine, int sour, int law) { }

    static final class Fault extends RuntimeException {
        final int place;

        Fault(int place) {
            super("fault", null, false, false);
            this.place = place;
        }
    }

    static final class Pot {
        long tied, free, held, drops, oil, water, sour, starch, crust, minutes, much, weeks;
        long heat = 20, flame;
        long[] lot;
        Law law;

        long age() {
            return much == 0 ? 0 : weeks / much;
        }

        void handfuls(int[] cheese, int h) {
            much += h;
            weeks += (long) h * cheese[0];
            held += (long) h * cheese[1];
            water += (long) h * cheese[2];
            tied += (long) h * cheese[3];
            heat = heat < h ? 0 : heat - h;
        }

        void strokes(int strength) {
            long back = strength * (1 + starch + free / 20);
            if (back > oil) {
                back = oil;
            }
            oil -= back;
            drops += back;
            crust = crust < strength ? 0 : crust - strength;
        }

        static long within(long v, long least, long most) {
            return v < least ? least : v > most ? most : v;
        }

        void minute(boolean stirred) {
            minutes++;
            long risen = heat + (12 * flame - heat) / 3;
            if (lot != null) {
                lot[0] = lot[0] * 48271 % 2147483647L;
                risen += lot[0] % 9 - 4;
            }
            heat = within(risen, 0, 120);
            long part = tied * within(law.melt.applyAsInt(this), 0, 100) / 100;
            tied -= part;
            free += part;
            long goes = held * within(law.split.applyAsInt(this), 0, 100) / 100;
            held -= goes;
            if (stirred) {
                drops += goes;
            }
            if (!stirred) {
                oil += goes;
                long half = drops / 2;
                oil += half;
                drops -= half;
                if (heat > 60) {
                    crust = crust + 1 + tied / 50;
                }
            }
            water = within(water - heat / 40, 0, Long.MAX_VALUE);
        }

        void act(Act a, List<int[]> cheeses) {
            boolean pours = a.kind == 1 || a.kind == 4;
            boolean strokes = a.kind == 3 || a.kind == 5;
            if (pours) {
                water = water + a.more > 9999 ? 9999 : water + a.more;
                sour = sour + a.more * a.of / 4 > 99 ? 99 : sour + a.more * a.of / 4;
                heat = heat < a.more / 2 ? 0 : heat - a.more / 2;
            }
            if (a.kind == 4) {
                starch = starch + a.more > 99 ? 99 : starch + a.more;
            }
            if (a.kind == 2 && a.of < cheeses.size()) {
                handfuls(cheeses.get(a.of), a.more);
            }
            if (strokes) {
                strokes(a.more);
            }
            if (a.kind == 5) {
                flame = a.of;
            }
            for (int m = 0; m < minutesOf(a); m++) {
                minute(a.kind != 0);
            }
        }

        static int minutesOf(Act a) {
            return new int[] {1 + a.more, 1, 1, 1 + a.more, 1, a.more == 0 ? 1 : a.more}[a.kind];
        }

        long thick() {
            long by = water / 10 == 0 ? 1 : water / 10;
            return (free + 3 * starch + drops) / by;
        }

        long threads() {
            return free == 0 ? 0 : within(law.thread.applyAsInt(this), 0, 999);
        }

        int sort() {
            if (much == 0) {
                return 0;
            }
            if (4 * oil > held + drops) {
                return tied > free && water > 5 * much ? 4 : 3;
            }
            if (tied > free) {
                return 2;
            }
            return thick() > 60 ? 5 : threads() > 40 ? 1 : 0;
        }

        boolean holds() {
            return sort() != 3 && sort() != 4;
        }

        long told(int what) {
            return new long[] {tied, free, held, drops, oil, water, sour, starch, heat, minutes, crust,
                thick(), threads(), sort()}[what];
        }
    }

    /** Reads by going down; a token is a string, and the fault is thrown where it is found. */
    static final class Parser {
        static final List<String> NAMES = List.of("heat", "sour", "starch", "water", "fat", "age");
        static final List<String> KEYS = List.of("melt", "split", "thread", "or", "and", "not");
        final int[] tape;
        int at;
        int open;

        Parser(List<Integer> bytes) {
            tape = bytes.stream().mapToInt(Integer::intValue).toArray();
        }

        void skip() {
            while (at < tape.length && (tape[at] == 32 || tape[at] == 10)) {
                at++;
            }
        }

        /** The token ahead; "" at the end; a fault if none begins there. */
        String ahead() {
            skip();
            if (at == tape.length) {
                return "";
            }
            StringBuilder s = new StringBuilder();
            int c = tape[at];
            if (c >= 'a' && c <= 'z') {
                for (int i = at; i < tape.length && tape[i] >= 'a' && tape[i] <= 'z'; i++) {
                    s.append((char) tape[i]);
                }
                if (!NAMES.contains(s.toString()) && !KEYS.contains(s.toString())) {
                    throw new Fault(at);
                }
            } else if (c >= '0' && c <= '9') {
                for (int i = at; i < tape.length && tape[i] >= '0' && tape[i] <= '9'; i++) {
                    s.append((char) tape[i]);
                }
                if (s.length() > 4) {
                    throw new Fault(at);
                }
            } else if ("();+-*<=".contains(String.valueOf((char) c))) {
                s.append((char) c);
            } else {
                throw new Fault(at);
            }
            return s.toString();
        }

        boolean take(String wanted) {
            if (!ahead().equals(wanted)) {
                return false;
            }
            at += wanted.length();
            return true;
        }

        void must(String wanted) {
            if (!take(wanted)) {
                throw new Fault(at);
            }
        }

        void opening() {
            if (open == 5) {
                throw new Fault(at);
            }
            open++;
        }

        Law law() {
            must("melt");
            ToIntFunction<Pot> melt = e();
            must(";");
            must("split");
            ToIntFunction<Pot> split = e();
            must(";");
            must("thread");
            ToIntFunction<Pot> thread = e();
            must(";");
            if (!ahead().isEmpty()) {
                throw new Fault(at);
            }
            return new Law(melt, split, thread);
        }

        ToIntFunction<Pot> e() {
            ToIntFunction<Pot> left = and();
            while (take("or")) {
                ToIntFunction<Pot> l = left, r = and();
                left = p -> l.applyAsInt(p) != 0 | r.applyAsInt(p) != 0 ? 1 : 0;
            }
            return left;
        }

        ToIntFunction<Pot> and() {
            ToIntFunction<Pot> left = not();
            while (take("and")) {
                ToIntFunction<Pot> l = left, r = not();
                left = p -> l.applyAsInt(p) != 0 & r.applyAsInt(p) != 0 ? 1 : 0;
            }
            return left;
        }

        ToIntFunction<Pot> not() {
            if (ahead().equals("not")) {
                opening();
                take("not");
                ToIntFunction<Pot> of = not();
                open--;
                return p -> of.applyAsInt(p) == 0 ? 1 : 0;
            }
            ToIntFunction<Pot> l = sum();
            if (take("<")) {
                ToIntFunction<Pot> r = sum();
                return p -> l.applyAsInt(p) < r.applyAsInt(p) ? 1 : 0;
            }
            if (take("=")) {
                ToIntFunction<Pot> r = sum();
                return p -> l.applyAsInt(p) == r.applyAsInt(p) ? 1 : 0;
            }
            return l;
        }

        ToIntFunction<Pot> sum() {
            ToIntFunction<Pot> left = term();
            while (true) {
                ToIntFunction<Pot> l = left;
                if (take("+")) {
                    ToIntFunction<Pot> r = term();
                    left = p -> l.applyAsInt(p) + r.applyAsInt(p);
                } else if (take("-")) {
                    ToIntFunction<Pot> r = term();
                    left = p -> l.applyAsInt(p) - r.applyAsInt(p);
                } else {
                    return left;
                }
            }
        }

        ToIntFunction<Pot> term() {
            ToIntFunction<Pot> left = one();
            while (take("*")) {
                ToIntFunction<Pot> l = left, r = one();
                left = p -> l.applyAsInt(p) * r.applyAsInt(p);
            }
            return left;
        }

        ToIntFunction<Pot> one() {
            String t = ahead();
            if (t.equals("-")) {
                opening();
                take("-");
                ToIntFunction<Pot> of = one();
                open--;
                return p -> -of.applyAsInt(p);
            }
            if (t.equals("(")) {
                opening();
                take("(");
                ToIntFunction<Pot> of = e();
                must(")");
                open--;
                return of;
            }
            if (NAMES.contains(t)) {
                take(t);
                int which = NAMES.indexOf(t);
                return p -> (int) new long[] {p.heat, p.sour, p.starch, p.water, p.held, p.age()}[which];
            }
            if (!t.isEmpty() && Character.isDigit(t.charAt(0))) {
                take(t);
                int number = Integer.parseInt(t);
                return p -> number;
            }
            throw new Fault(at);
        }
    }

    List<int[]> cheeses = new ArrayList<>();
    final List<Act> acts = new ArrayList<>();
    final List<Law> laws = new ArrayList<>();
    List<Integer> tape = new ArrayList<>();
    int[] told = {4, 20, 3};
    int law = 0;
    Image image;
    /** byte[], short[], int[] or null. */
    final Object[] sheets = new Object[4];

    public PlainModel() {
        String first = "melt heat * 2 + sour - 20 ; split heat - 50 - sour * 2 - starch ; thread 60 - age + heat ;";
        List<Integer> bytes = new ArrayList<>();
        first.chars().forEach(bytes::add);
        laws.add(new Parser(bytes).law());
    }

    static boolean in(int v, int least, int most) {
        return v >= least && v <= most;
    }

    boolean noCheese(int s) {
        return !in(s, 0, cheeses.size() - 1);
    }

    boolean noActs(int n) {
        return !in(n, 0, acts.size());
    }

    Pot begin(int flame, int wine, int sour, int t) {
        Pot p = new Pot();
        p.flame = flame;
        p.water = wine;
        p.sour = sour;
        p.law = laws.get(t);
        return p;
    }

    Pot begin() {
        return begin(told[0], told[1], told[2], law);
    }

    Pot after(Pot p, List<Act> done) {
        for (Act a : done) {
            p.act(a, cheeses);
        }
        return p;
    }

    Pot behind(int n) {
        return after(begin(), acts.subList(0, n));
    }

    boolean holdsWith(int flame, int wine, int sour) {
        return after(begin(flame, wine, sour, law), acts).holds();
    }

    public int cheese(int weeks, int fats, int wets, int limes, int tastes) {
        if (!in(weeks, 1, 99) || !in(fats, 0, 99) || !in(wets, 0, 99) || !in(limes, 0, 99) || !in(tastes, 0, 99)) {
            return BAD;
        }
        if (cheeses.size() == 4) {
            return FULL;
        }
        cheeses.add(new int[] {weeks, fats, wets, limes, tastes});
        return cheeses.size() - 1;
    }

    public int ripen(int s, int what, int v) {
        if (noCheese(s)) {
            return -5;
        }
        if (!in(what, 0, 4) || !in(v, what == 0 ? 1 : 0, 99)) {
            return -7;
        }
        int was = cheeses.get(s)[what];
        cheeses.get(s)[what] = v;
        return was;
    }

    public int sortTold(int s, int what) {
        return noCheese(s) ? -5 : !in(what, 0, 4) ? -7 : cheeses.get(s)[what];
    }

    public int set(int what, int v) {
        if (!in(what, 0, 2)) {
            return NONE;
        }
        if (!in(v, 0, what == 1 ? 99 : 9)) {
            return BAD;
        }
        int was = told[what];
        told[what] = v;
        return was;
    }

    public int count(int what) {
        if (!in(what, 0, 7)) {
            return BAD;
        }
        return new int[] {told[0], told[1], told[2], cheeses.size(), acts.size(), laws.size(), law, tape.size()}[what];
    }

    public int feed(int n, int a, int b, int c, int d, int e) {
        int[] five = {a, b, c, d, e};
        if (!in(n, 1, 5)) {
            return BAD;
        }
        for (int v : five) {
            if (!in(v, 0, 255)) {
                return BAD;
            }
        }
        if (tape.size() + n > 160) {
            return FULL;
        }
        for (int i = 0; i < n; i++) {
            tape.add(five[i]);
        }
        return tape.size();
    }

    public int text() {
        if (laws.size() == 6) {
            return FULL;
        }
        List<Integer> read = tape;
        tape = new ArrayList<>();
        try {
            laws.add(new Parser(read).law());
            return laws.size() - 1;
        } catch (Fault f) {
            return -100 - f.place;
        }
    }

    public int force(int t) {
        if (!in(t, 0, laws.size() - 1)) {
            return BAD;
        }
        int was = law;
        law = t;
        return was;
    }

    public int act(int kind, int more, int of) {
        if (!in(kind, 0, 5) || !in(more, 0, 9) || !in(of, 0, 9)) {
            return BAD;
        }
        if (acts.size() == 12) {
            return FULL;
        }
        acts.add(new Act(kind, more, of));
        return acts.size() - 1;
    }

    public int forget() {
        if (acts.isEmpty()) {
            return STATE;
        }
        acts.remove(acts.size() - 1);
        return acts.size();
    }

    public int actTold(int a, int what) {
        if (!in(a, 0, acts.size() - 1)) {
            return -5;
        }
        Act act = acts.get(a);
        return !in(what, 0, 4) ? -7
            : new int[] {act.kind, act.more, act.of, Pot.minutesOf(act), act.kind == 0 ? 0 : 1}[what];
    }

    public int pot(int n, int what) {
        return noActs(n) ? -5 : !in(what, 0, 13) ? -7 : (int) behind(n).told(what);
    }

    public int splits(int what) {
        if (!in(what, 0, 1)) {
            return BAD;
        }
        long most = 0;
        int best = -1;
        for (int a = 0; a < acts.size(); a++) {
            if (what == 0 && !behind(a + 1).holds()) {
                return a;
            }
            long more = behind(a + 1).oil - behind(a).oil;
            if (what == 1 && more > most) {
                most = more;
                best = a;
            }
        }
        return best;
    }

    public int hour(int n, int what) {
        if (noActs(n)) {
            return -5;
        }
        if (!in(what, 0, 1)) {
            return -7;
        }
        Pot p = behind(n);
        int held = 0;
        boolean ok = p.holds();
        while (ok && held < 60) {
            p.minute(what == 1);
            ok = p.holds();
            held += ok ? 1 : 0;
        }
        return held;
    }

    public int flames() {
        int bits = 0;
        for (int f = 0; f < 10; f++) {
            bits += holdsWith(f, told[1], told[2]) ? 1 << f : 0;
        }
        return bits;
    }

    public int sours() {
        int bits = 0;
        for (int s = 0; s < 10; s++) {
            bits += holdsWith(told[0], told[1], s) ? 1 << s : 0;
        }
        return bits;
    }

    public int region() {
        int all = 0;
        for (int i = 0; i < 100; i++) {
            all += holdsWith(i / 10, told[1], i % 10) ? 1 : 0;
        }
        return all;
    }

    public int most() {
        int most = told[1] - 1;
        while (most < 99 && holdsWith(told[0], most + 1, told[2])) {
            most++;
        }
        return most < told[1] ? -1 : most;
    }

    static long term(int above, int below, int part) {
        int a = above, b = below;
        while (a != 0) {
            int rest = b % a;
            b = a;
            a = rest;
        }
        return (part == 0 ? above : below) / b;
    }

    public long odds(int off, int part) {
        if (!in(off, 0, 5) || !in(part, 0, 1)) {
            return NO;
        }
        int held = 0;
        for (int f = told[0] - off; f <= told[0] + off; f++) {
            held += holdsWith(f < 0 ? 0 : f > 9 ? 9 : f, told[1], told[2]) ? 1 : 0;
        }
        return term(held, 2 * off + 1, part);
    }

    public int save(int n, int how, int what) {
        if (noActs(n)) {
            return -5;
        }
        if (!in(how, 0, 99) || !in(what, 0, 2)) {
            return -7;
        }
        Pot best = null;
        int bestKind = -1;
        for (int kind = 5; kind >= 0; kind--) {
            Pot p = behind(n);
            p.act(new Act(kind, how / 10, how % 10), cheeses);
            if (best == null || p.oil <= best.oil) {
                best = p;
                bestKind = kind;
            }
        }
        return what == 0 ? bestKind : what == 1 ? (int) best.oil : best.holds() ? 1 : 0;
    }

    public int why(int n) {
        if (noActs(n)) {
            return -5;
        }
        for (int a = 0; a < n && !behind(n).holds(); a++) {
            List<Act> others = new ArrayList<>(acts.subList(0, n));
            others.remove(a);
            if (after(begin(), others).holds()) {
                return a;
            }
        }
        return -1;
    }

    public int order(int what) {
        if (!in(what, 0, 1)) {
            return BAD;
        }
        long least = behind(acts.size()).oil;
        int first = -1;
        for (int a = 0; a + 1 < acts.size(); a++) {
            List<Act> others = new ArrayList<>(acts);
            others.add(a, others.remove(a + 1));
            long oil = after(begin(), others).oil;
            if (oil < least) {
                least = oil;
                first = a;
            }
        }
        return what == 0 ? first : (int) least;
    }

    public int strokes(int n, int strength) {
        if (noActs(n)) {
            return -5;
        }
        if (!in(strength, 1, 9)) {
            return -7;
        }
        for (int times = 0; times <= 60; times++) {
            Pot p = behind(n);
            for (int i = 0; i < times; i++) {
                p.strokes(strength);
                p.minute(true);
            }
            if (p.oil == 0) {
                return times;
            }
        }
        return -1;
    }

    public int mix(int two, int how, int what) {
        if (two < 0 || noCheese(two / 10) || noCheese(two % 10)) {
            return -5;
        }
        if (how < 0 || !in(how / 100, 1, 20) || !in(how % 100, 0, 60) || !in(what, 0, 1)) {
            return -7;
        }
        int[] one = cheeses.get(two / 10), other = cheeses.get(two % 10);
        int all = how / 100, best = -1, most = -1;
        for (int h = all; h >= 0; h--) {
            Pot p = begin();
            p.handfuls(other, all - h);
            p.handfuls(one, h);
            for (int m = 0; m < how % 100; m++) {
                p.minute(true);
            }
            int taste = h * one[4] + (all - h) * other[4];
            if (p.holds() && taste >= most) {
                best = h;
                most = taste;
            }
        }
        return what == 0 ? best : most;
    }

    /** What is asked, with a cheese of other weeks. */
    long aged(int s, int weeks, ToLongFunction<PlainModel> asked) {
        int was = cheeses.get(s)[0];
        cheeses.get(s)[0] = weeks;
        long answer = asked.applyAsLong(this);
        cheeses.get(s)[0] = was;
        return answer;
    }

    public int week(int s, int what) {
        if (noCheese(s)) {
            return -5;
        }
        if (!in(what, 0, 1)) {
            return -7;
        }
        long longest = -1;
        int best = 0;
        for (int w = 60; w >= 1; w--) {
            long threads = aged(s, w, m -> m.behind(m.acts.size()).threads());
            if (threads >= longest) {
                longest = threads;
                best = w;
            }
        }
        return what == 0 ? best : (int) longest;
    }

    public int pace(int s, int all) {
        if (noCheese(s)) {
            return -5;
        }
        if (!in(all, 1, 30)) {
            return -7;
        }
        int best = -1;
        for (int each = 1; each <= all; each++) {
            Pot p = begin();
            int left = all;
            while (left > 0) {
                int now = each < left ? each : left;
                p.handfuls(cheeses.get(s), now);
                p.minute(true);
                left -= now;
            }
            if (p.holds() && p.tied <= p.free) {
                best = each;
            }
        }
        return best;
    }

    /** On end as long as it holds; the pot is as it is in the end. */
    static int sit(Pot p, int minutes, int every) {
        int on = p.holds() ? 0 : Integer.MIN_VALUE / 2;
        int best = 0;
        for (int m = 1; m <= minutes; m++) {
            boolean dips = m % every == 0;
            if (dips) {
                p.strokes(2);
            }
            p.minute(dips);
            on = p.holds() ? on + 1 : Integer.MIN_VALUE / 2;
            best = Math.max(best, on);
        }
        return best;
    }

    public int table(int minutes, int every, int what) {
        if (!in(minutes, 0, 90) || !in(every, 1, 30) || !in(what, 0, 3)) {
            return BAD;
        }
        Pot p = behind(acts.size());
        int on = sit(p, minutes, every);
        return (int) new long[] {on, p.crust, p.thick(), p.oil}[what];
    }

    public int dips(int minutes, int crust) {
        if (!in(minutes, 1, 90) || !in(crust, 0, 999)) {
            return BAD;
        }
        int best = -1;
        for (int every = 1; every <= 30; every++) {
            if (table(minutes, every, 0) == minutes && table(minutes, every, 1) <= crust) {
                best = every;
            }
        }
        return best;
    }

    public int wick(int minutes, int every) {
        if (!in(minutes, 1, 90) || !in(every, 1, 30)) {
            return BAD;
        }
        int best = -1, longest = -1;
        for (int f = 9; f >= 0; f--) {
            Pot p = behind(acts.size());
            p.flame = f;
            int on = sit(p, minutes, every);
            if (on > longest) {
                longest = on;
                best = f;
            }
        }
        return best;
    }

    static int size(Object row) {
        return java.lang.reflect.Array.getLength(row);
    }

    static int number(Object row, int i) {
        return row instanceof byte[] b ? b[i] : row instanceof short[] h ? h[i] : ((int[]) row)[i];
    }

    static void put(Object row, int i, int v) {
        if (row instanceof byte[] b) {
            b[i] = (byte) v;
        } else if (row instanceof short[] h) {
            h[i] = (short) v;
        } else {
            ((int[]) row)[i] = v;
        }
    }

    static int sortOf(Object row) {
        return row instanceof byte[] ? 0 : row instanceof short[] ? 1 : 2;
    }

    int refused(int s) {
        return !in(s, 0, 3) ? BAD : sheets[s] == null ? -11 : size(sheets[s]) != acts.size() ? BAD : 0;
    }

    public int judge(int s) {
        if (refused(s) != 0) {
            return refused(s);
        }
        for (int a = 0; a < acts.size(); a++) {
            if (behind(a + 1).sort() != number(sheets[s], a)) {
                return a;
            }
        }
        return -1;
    }

    public int film(int s) {
        if (!in(s, 0, 3)) {
            return BAD;
        }
        int[] oils = new int[acts.size()];
        for (int a = 0; a < oils.length; a++) {
            oils[a] = (int) behind(a + 1).oil;
        }
        sheets[s] = oils;
        return oils.length;
    }

    boolean oilAs(int s) {
        for (int a = 0; a < acts.size(); a++) {
            if (behind(a + 1).oil != number(sheets[s], a)) {
                return false;
            }
        }
        return true;
    }

    public long ages(int s, int sheet) {
        if (noCheese(s) || refused(sheet) != 0) {
            return NO;
        }
        long bits = 0;
        for (int w = 1; w <= 60; w++) {
            bits |= aged(s, w, m -> m.oilAs(sheet) ? 1 : 0) << w;
        }
        return bits;
    }

    public int which(int s) {
        if (refused(s) != 0) {
            return refused(s);
        }
        int was = law, bits = 0;
        for (int t = 0; t < laws.size(); t++) {
            law = t;
            bits |= oilAs(s) ? 1 << t : 0;
        }
        law = was;
        return bits;
    }

    Pot drawnPot(int n, int seed) {
        Pot p = begin();
        p.lot = new long[] {seed + 1};
        return after(p, acts.subList(0, n));
    }

    public int drawn(int n, int seed, int what) {
        return noActs(n) ? -5 : !in(seed, 0, 99999) || !in(what, 0, 13) ? -7 : (int) drawnPot(n, seed).told(what);
    }

    public long chance(int seed, int many, int part) {
        if (!in(seed, 0, 99999) || !in(many, 1, 20) || !in(part, 0, 1)) {
            return NO;
        }
        int held = 0;
        for (int i = 0; i < many; i++) {
            held += drawnPot(acts.size(), seed + i > 99999 ? 99999 : seed + i).holds() ? 1 : 0;
        }
        return term(held, many, part);
    }

    public int image() {
        List<int[]> copies = new ArrayList<>();
        for (int[] c : cheeses) {
            copies.add(c.clone());
        }
        image = new Image(copies, told[0], told[1], told[2], law);
        return copies.size();
    }

    public int back() {
        if (image == null) {
            return STATE;
        }
        for (int i = 0; i < image.cheeses.size(); i++) {
            cheeses.set(i, image.cheeses.get(i).clone());
        }
        told = new int[] {image.flame, image.wine, image.sour};
        law = image.law;
        return cheeses.size();
    }

    public int sheet(int s, int sort, int n) {
        if (!in(s, 0, 3) || !in(sort, -1, 2) || sort != -1 && n > 40) {
            return BAD;
        }
        if (sort != -1 && n < 0) {
            return -14;
        }
        sheets[s] = sort == -1 ? null : sort == 0 ? new byte[n] : sort == 1 ? new short[n] : new int[n];
        return 1;
    }

    public int cell(int s, int i, int v) {
        if (!in(s, 0, 3)) {
            return BAD;
        }
        if (sheets[s] == null) {
            return -11;
        }
        if (!in(i, 0, size(sheets[s]) - 1)) {
            return -12;
        }
        put(sheets[s], i, v);
        return 1;
    }

    public int copy(int s, int i, int other, int j, int n) {
        if (!in(s, 0, 3) || !in(other, 0, 3)) {
            return BAD;
        }
        Object from = sheets[s], to = sheets[other];
        if (from == null || to == null) {
            return -11;
        }
        if (sortOf(from) != sortOf(to)) {
            return -13;
        }
        if (i < 0 || j < 0 || n < 0 || (long) i + n > size(from) || (long) j + n > size(to)) {
            return -12;
        }
        int[] numbers = new int[n];
        for (int k = 0; k < n; k++) {
            numbers[k] = number(from, i + k);
        }
        for (int k = 0; k < n; k++) {
            put(to, j + k, numbers[k]);
        }
        return n;
    }

    public int actsBy(int s, int sort, int at, int n) {
        if (!in(s, 0, 3) || !in(sort, 0, 2) || !in(n, 0, 12)) {
            return BAD;
        }
        Object row = sheets[s];
        if (row == null) {
            return -11;
        }
        if (sortOf(row) != sort) {
            return -13;
        }
        int came = 0;
        for (int k = 0; k < n; k++) {
            long first = (long) at + 3 * k;
            if (first < 0 || first + 2 >= size(row)) {
                return -12;
            }
            int p = (int) first;
            came += act(number(row, p), number(row, p + 1), number(row, p + 2)) >= 0 ? 1 : 0;
        }
        return came;
    }

    public int taken(int i, int kind) {
        if (!in(kind, 0, 6)) {
            return BAD;
        }
        if (!in(i, 0, 15)) {
            return -12;
        }
        if (i < 4) {
            return noCheese(i) ? -11 : kind == 6 ? cheeses.get(i)[0] : -13;
        }
        if (i - 4 >= acts.size()) {
            return -11;
        }
        // Of each kind, those that it may be taken for.
        List<List<Integer>> may = List.of(List.of(0), List.of(0, 1), List.of(0, 2), List.of(0, 3),
            List.of(0, 1, 4), List.of(0, 3, 5));
        return may.get(acts.get(i - 4).kind).contains(kind) ? i - 4 : -13;
    }
}
