/** A pot of cheese over a flame: what is in it behind each act, whether it holds, and what would save it. */
public final class ThreadsAndSplits {
    public static final int NONE = -1, BAD = -2, STATE = -3, FULL = -4;
    public static final long NO = -4611686018427387904L;

    private static final int NO_SUCH = -5, NOT_SO = -7;
    private static final int MISSING = -11, OUTSIDE = -12, UNLIKE = -13, BELOW_ZERO = -14;
    private static final int MOST_CHEESES = 4, MOST_ACTS = 12, MOST_LAWS = 6, MOST_SHEETS = 4;
    private static final int FLAME = 0, WINE = 1, SOUR = 2;
    private static final int[] MOST_TOLD = {9, 99, 9};
    private static final int WHOLE_HOUR = 60, MOST_WEEKS = 60, MOST_STROKES = 60;
    private static final int MOST_AT_TABLE = 90, LONGEST_EVERY = 30, DIP = 2;
    private static final int LAST_SEED = 99999, MOST_SEEDS = 20;
    private static final String FIRST_LAW =
        "melt heat * 2 + sour - 20 ; split heat - 50 - sour * 2 - starch ; thread 60 - age + heat ;";

    private final Cheese[] cheeses = new Cheese[MOST_CHEESES];
    private int cheeseCount;
    private final Act[] acts = new Act[MOST_ACTS];
    private int actCount;
    private final Law[] laws = new Law[MOST_LAWS];
    private int lawCount;
    private int lawNow;
    private final int[] told = {4, 20, 3};
    private final Reader tape = new Reader();
    private final Sheet[] sheets = new Sheet[MOST_SHEETS];
    private final Cheese[] keptCheeses = new Cheese[MOST_CHEESES];
    private int keptCount = NONE;
    private final int[] keptTold = new int[3];
    private int keptLaw;
    private final Pot kettle = new Pot();
    private final Pot later = new Pot();
    private final Act trial = new Act();

    public ThreadsAndSplits() {
        for (int i = 0; i < MOST_CHEESES; i++) {
            cheeses[i] = new Cheese();
            keptCheeses[i] = new Cheese();
        }
        for (int i = 0; i < MOST_ACTS; i++) {
            acts[i] = new Act();
        }
        for (int i = 0; i < MOST_SHEETS; i++) {
            sheets[i] = new Sheet();
        }
        for (int i = 0; i < FIRST_LAW.length(); i++) {
            tape.add(FIRST_LAW.charAt(i));
        }
        laws[0] = tape.readLaw();
        lawCount = 1;
    }

    // ---- cheeses, the law, acts

    public int cheese(int weeks, int fats, int wets, int limes, int tastes) {
        boolean fits = Cheese.fits(Cheese.WEEKS, weeks) && Cheese.fits(Cheese.FAT, fats)
            && Cheese.fits(Cheese.WET, wets) && Cheese.fits(Cheese.LIME, limes)
            && Cheese.fits(Cheese.TASTE, tastes);
        if (!fits) {
            return BAD;
        }
        if (cheeseCount >= MOST_CHEESES) {
            return FULL;
        }
        cheeseCount++;
        Cheese made = cheeseAt(cheeseCount - 1);
        if (made != null) {
            made.put(Cheese.WEEKS, weeks);
            made.put(Cheese.FAT, fats);
            made.put(Cheese.WET, wets);
            made.put(Cheese.LIME, limes);
            made.put(Cheese.TASTE, tastes);
        }
        return cheeseCount - 1;
    }

    public int ripen(int s, int what, int v) {
        Cheese cheese = cheeseAt(s);
        if (cheese == null) {
            return NO_SUCH;
        }
        if (!Cheese.fits(what, v)) {
            return NOT_SO;
        }
        int was = cheese.tell(what);
        cheese.put(what, v);
        return was;
    }

    public int sortTold(int s, int what) {
        Cheese cheese = cheeseAt(s);
        if (cheese == null) {
            return NO_SUCH;
        }
        return Cheese.hasPart(what) ? cheese.tell(what) : NOT_SO;
    }

    public int set(int what, int v) {
        if (what < FLAME || what > SOUR) {
            return NONE;
        }
        if (v < 0 || v > MOST_TOLD[what]) {
            return BAD;
        }
        int was = told[what];
        told[what] = v;
        return was;
    }

    public int count(int what) {
        switch (what) {
            case FLAME:
            case WINE:
            case SOUR:
                return told[what];
            case 3:
                return cheeseCount;
            case 4:
                return actCount;
            case 5:
                return lawCount;
            case 6:
                return lawNow;
            case 7:
                return tape.size();
            default:
                return BAD;
        }
    }

    public int feed(int n, int a, int b, int c, int d, int e) {
        if (n < 1 || n > 5 || !isByte(a) || !isByte(b) || !isByte(c) || !isByte(d) || !isByte(e)) {
            return BAD;
        }
        if (!tape.hasRoom(n)) {
            return FULL;
        }
        for (int i = 0; i < n; i++) {
            tape.add(i == 0 ? a : i == 1 ? b : i == 2 ? c : i == 3 ? d : e);
        }
        return tape.size();
    }

    public int text() {
        if (lawCount >= MOST_LAWS) {
            return FULL;
        }
        Law read = tape.readLaw();
        if (read == null) {
            return -100 - tape.faultPlace();
        }
        laws[lawCount] = read;
        lawCount++;
        return lawCount - 1;
    }

    public int force(int t) {
        if (t < 0 || t >= lawCount) {
            return BAD;
        }
        int was = lawNow;
        lawNow = t;
        return was;
    }

    public int act(int kind, int more, int of) {
        if (!Act.fits(kind, more, of)) {
            return BAD;
        }
        if (actCount >= MOST_ACTS) {
            return FULL;
        }
        actCount++;
        Act made = actAt(actCount - 1);
        if (made != null) {
            made.become(kind, more, of);
        }
        return actCount - 1;
    }

    public int forget() {
        if (actCount <= 0) {
            return STATE;
        }
        actCount--;
        return actCount;
    }

    public int actTold(int a, int what) {
        Act act = actAt(a);
        if (act == null) {
            return NO_SUCH;
        }
        switch (what) {
            case 0:
                return act.kind;
            case 1:
                return act.more;
            case 2:
                return act.of;
            case 3:
                return act.minutesLong();
            case 4:
                return act.isStirred() ? 1 : 0;
            default:
                return NOT_SO;
        }
    }

    // ---- the pot behind n acts

    public int pot(int n, int what) {
        if (!hasActs(n)) {
            return NO_SUCH;
        }
        if (!Pot.canTell(what)) {
            return NOT_SO;
        }
        cookActs(n);
        return kettle.tell(what);
    }

    public int splits(int what) {
        if (!isBit(what)) {
            return BAD;
        }
        return what == 0 ? firstSplit() : greatestLeak();
    }

    public int hour(int n, int what) {
        if (!hasActs(n)) {
            return NO_SUCH;
        }
        if (!isBit(what)) {
            return NOT_SO;
        }
        cookActs(n);
        if (!kettle.holdsNow()) {
            return 0;
        }
        for (int passed = 0; passed < WHOLE_HOUR; passed++) {
            kettle.passMinute(what == 1);
            if (!kettle.holdsNow()) {
                return passed;
            }
        }
        return WHOLE_HOUR;
    }

    // ---- with what it holds behind all acts

    public int flames() {
        int bits = 0;
        for (int flame = 0; flame <= MOST_TOLD[FLAME]; flame++) {
            if (holdsWith(flame, told[WINE], told[SOUR])) {
                bits |= 1 << flame;
            }
        }
        return bits;
    }

    public int sours() {
        int bits = 0;
        for (int sour = 0; sour <= MOST_TOLD[SOUR]; sour++) {
            if (holdsWith(told[FLAME], told[WINE], sour)) {
                bits |= 1 << sour;
            }
        }
        return bits;
    }

    public int region() {
        int held = 0;
        for (int flame = 0; flame <= MOST_TOLD[FLAME]; flame++) {
            for (int sour = 0; sour <= MOST_TOLD[SOUR]; sour++) {
                if (holdsWith(flame, told[WINE], sour)) {
                    held++;
                }
            }
        }
        return held;
    }

    public int most() {
        int best = NONE;
        for (int wine = told[WINE]; wine <= MOST_TOLD[WINE]; wine++) {
            if (!holdsWith(told[FLAME], wine, told[SOUR])) {
                return best;
            }
            best = wine;
        }
        return best;
    }

    public long odds(int off, int part) {
        if (off < 0 || off > 5 || !isBit(part)) {
            return NO;
        }
        int held = 0;
        for (int by = -off; by <= off; by++) {
            int flame = Math.max(0, Math.min(MOST_TOLD[FLAME], told[FLAME] + by));
            if (holdsWith(flame, told[WINE], told[SOUR])) {
                held++;
            }
        }
        return lowestTerm(held, 2 * off + 1, part);
    }

    // ---- what saves it, what it was

    public int save(int n, int how, int what) {
        if (!hasActs(n)) {
            return NO_SUCH;
        }
        if (how < 0 || how > 99 || what < 0 || what > 2) {
            return NOT_SO;
        }
        cookActs(n);
        int best = NONE;
        int leastOil = 0;
        boolean holds = false;
        for (int kind = 0; kind < Act.KINDS; kind++) {
            trial.become(kind, how / 10, how % 10);
            later.becomeLike(kettle);
            later.undergo(trial, cheeseAt(trial.of));
            if (best == NONE || later.oil < leastOil) {
                best = kind;
                leastOil = later.oil;
                holds = later.holdsNow();
            }
        }
        return what == 0 ? best : what == 1 ? leastOil : holds ? 1 : 0;
    }

    public int why(int n) {
        if (!hasActs(n)) {
            return NO_SUCH;
        }
        cookActs(n);
        if (kettle.holdsNow()) {
            return NONE;
        }
        for (int without = 0; without < n; without++) {
            beginPot();
            runActs(0, without);
            runActs(without + 1, n);
            if (kettle.holdsNow()) {
                return without;
            }
        }
        return NONE;
    }

    public int order(int what) {
        if (!isBit(what)) {
            return BAD;
        }
        cookActs(actCount);
        int leastOil = kettle.oil;
        int best = NONE;
        for (int first = 0; first + 1 < actCount; first++) {
            beginPot();
            runActs(0, first);
            runActs(first + 1, first + 2);
            runActs(first, first + 1);
            runActs(first + 2, actCount);
            if (kettle.oil < leastOil) {
                leastOil = kettle.oil;
                best = first;
            }
        }
        return what == 0 ? best : leastOil;
    }

    public int strokes(int n, int strength) {
        if (!hasActs(n)) {
            return NO_SUCH;
        }
        if (strength < 1 || strength > 9) {
            return NOT_SO;
        }
        cookActs(n);
        for (int times = 0; times <= MOST_STROKES; times++) {
            if (kettle.oil == 0) {
                return times;
            }
            kettle.beat(strength);
            kettle.passMinute(true);
        }
        return NONE;
    }

    // ---- mixtures, weeks, handfuls

    public int mix(int two, int how, int what) {
        Cheese one = two < 0 ? null : cheeseAt(two / 10);
        Cheese other = two < 0 ? null : cheeseAt(two % 10);
        if (one == null || other == null) {
            return NO_SUCH;
        }
        int all = how / 100;
        int minutes = how % 100;
        if (all < 1 || all > 20 || minutes < 0 || minutes > WHOLE_HOUR || !isBit(what)) {
            return NOT_SO;
        }
        int best = NONE;
        int mostTaste = NONE;
        for (int ofOne = 0; ofOne <= all; ofOne++) {
            int taste = ofOne * one.tell(Cheese.TASTE) + (all - ofOne) * other.tell(Cheese.TASTE);
            if (taste <= mostTaste) {
                continue;
            }
            beginPot();
            kettle.throwIn(one, ofOne);
            kettle.throwIn(other, all - ofOne);
            for (int m = 0; m < minutes; m++) {
                kettle.passMinute(true);
            }
            if (kettle.holdsNow()) {
                best = ofOne;
                mostTaste = taste;
            }
        }
        return what == 0 ? best : mostTaste;
    }

    public int week(int s, int what) {
        Cheese cheese = cheeseAt(s);
        if (cheese == null) {
            return NO_SUCH;
        }
        if (!isBit(what)) {
            return NOT_SO;
        }
        int was = cheese.tell(Cheese.WEEKS);
        int best = NONE;
        int longest = NONE;
        for (int weeks = 1; weeks <= MOST_WEEKS; weeks++) {
            cheese.put(Cheese.WEEKS, weeks);
            cookActs(actCount);
            int threads = kettle.threadsLong();
            if (threads > longest) {
                best = weeks;
                longest = threads;
            }
        }
        cheese.put(Cheese.WEEKS, was);
        return what == 0 ? best : longest;
    }

    public int pace(int s, int all) {
        Cheese cheese = cheeseAt(s);
        if (cheese == null) {
            return NO_SUCH;
        }
        if (all < 1 || all > 30) {
            return NOT_SO;
        }
        for (int atOnce = all; atOnce >= 1; atOnce--) {
            beginPot();
            for (int left = all; left > 0; left -= atOnce) {
                kettle.throwIn(cheese, Math.min(atOnce, left));
                kettle.passMinute(true);
            }
            if (kettle.holdsNow() && kettle.tied <= kettle.free) {
                return atOnce;
            }
        }
        return NONE;
    }

    // ---- the table

    public int table(int minutes, int every, int what) {
        if (minutes < 0 || minutes > MOST_AT_TABLE || !isEvery(every) || what < 0 || what > 3) {
            return BAD;
        }
        cookActs(actCount);
        int held = sitAtTable(kettle, minutes, every);
        switch (what) {
            case 0:
                return held;
            case 1:
                return kettle.crust;
            case 2:
                return kettle.thickness();
            default:
                return kettle.oil;
        }
    }

    public int dips(int minutes, int crust) {
        if (minutes < 1 || minutes > MOST_AT_TABLE || crust < 0 || crust > 999) {
            return BAD;
        }
        cookActs(actCount);
        for (int every = LONGEST_EVERY; every >= 1; every--) {
            later.becomeLike(kettle);
            int held = sitAtTable(later, minutes, every);
            if (held == minutes && later.crust <= crust) {
                return every;
            }
        }
        return NONE;
    }

    public int wick(int minutes, int every) {
        if (minutes < 1 || minutes > MOST_AT_TABLE || !isEvery(every)) {
            return BAD;
        }
        cookActs(actCount);
        int best = 0;
        int longest = 0;
        for (int flame = 0; flame <= MOST_TOLD[FLAME]; flame++) {
            later.becomeLike(kettle);
            later.flame = flame;
            int held = sitAtTable(later, minutes, every);
            if (held >= longest) {
                best = flame;
                longest = held;
            }
        }
        return best;
    }

    // ---- tests

    public int judge(int s) {
        Sheet sheet = sheetAt(s);
        int refused = refusedAsTest(sheet);
        if (sheet == null || refused != 0) {
            return refused;
        }
        beginPot();
        for (int a = 0; a < actCount; a++) {
            runActs(a, a + 1);
            if (sheet.tell(a) != kettle.sortNow()) {
                return a;
            }
        }
        return NONE;
    }

    public int film(int s) {
        Sheet sheet = sheetAt(s);
        if (sheet == null) {
            return BAD;
        }
        sheet.become(Sheet.INTS, actCount);
        beginPot();
        for (int a = 0; a < actCount; a++) {
            runActs(a, a + 1);
            sheet.put(a, kettle.oil);
        }
        return actCount;
    }

    public long ages(int s, int sheet) {
        Cheese cheese = cheeseAt(s);
        Sheet oils = sheetAt(sheet);
        if (cheese == null || oils == null || refusedAsTest(oils) != 0) {
            return NO;
        }
        int was = cheese.tell(Cheese.WEEKS);
        long bits = 0;
        for (int weeks = 1; weeks <= MOST_WEEKS; weeks++) {
            cheese.put(Cheese.WEEKS, weeks);
            if (oilIsAsTold(oils, lawNow)) {
                bits |= 1L << weeks;
            }
        }
        cheese.put(Cheese.WEEKS, was);
        return bits;
    }

    public int which(int s) {
        Sheet oils = sheetAt(s);
        int refused = refusedAsTest(oils);
        if (oils == null || refused != 0) {
            return refused;
        }
        int bits = 0;
        for (int t = 0; t < lawCount; t++) {
            if (oilIsAsTold(oils, t)) {
                bits |= 1 << t;
            }
        }
        return bits;
    }

    // ---- a flame that flickers

    public int drawn(int n, int seed, int what) {
        if (!hasActs(n)) {
            return NO_SUCH;
        }
        if (!isSeed(seed) || !Pot.canTell(what)) {
            return NOT_SO;
        }
        cookDrawn(n, seed);
        return kettle.tell(what);
    }

    public long chance(int seed, int many, int part) {
        if (!isSeed(seed) || many < 1 || many > MOST_SEEDS || !isBit(part)) {
            return NO;
        }
        int held = 0;
        for (int i = 0; i < many; i++) {
            cookDrawn(actCount, Math.min(LAST_SEED, seed + i));
            if (kettle.holdsNow()) {
                held++;
            }
        }
        return lowestTerm(held, many, part);
    }

    public int image() {
        copyCheeses(cheeses, keptCheeses, cheeseCount);
        System.arraycopy(told, 0, keptTold, 0, told.length);
        keptLaw = lawNow;
        keptCount = cheeseCount;
        return cheeseCount;
    }

    public int back() {
        if (keptCount == NONE) {
            return STATE;
        }
        copyCheeses(keptCheeses, cheeses, keptCount);
        System.arraycopy(keptTold, 0, told, 0, told.length);
        lawNow = keptLaw;
        return cheeseCount;
    }

    // ---- the host

    public int sheet(int s, int sort, int n) {
        Sheet sheet = sheetAt(s);
        if (sheet == null || sort < Sheet.NO_SORT || sort > Sheet.INTS) {
            return BAD;
        }
        if (sort == Sheet.NO_SORT) {
            sheet.become(Sheet.NO_SORT, 0);
            return 1;
        }
        if (n > Sheet.LONGEST) {
            return BAD;
        }
        if (n < 0) {
            return BELOW_ZERO;
        }
        sheet.become(sort, n);
        return 1;
    }

    public int cell(int s, int i, int v) {
        Sheet sheet = sheetAt(s);
        if (sheet == null) {
            return BAD;
        }
        if (sheet.isMissing()) {
            return MISSING;
        }
        if (!sheet.hasRow(i, 1)) {
            return OUTSIDE;
        }
        sheet.put(i, v);
        return 1;
    }

    public int copy(int s, int i, int other, int j, int n) {
        Sheet from = sheetAt(s);
        Sheet to = sheetAt(other);
        if (from == null || to == null) {
            return BAD;
        }
        if (from.isMissing() || to.isMissing()) {
            return MISSING;
        }
        if (from.sort != to.sort) {
            return UNLIKE;
        }
        if (!from.hasRow(i, n) || !to.hasRow(j, n)) {
            return OUTSIDE;
        }
        to.takeRow(j, from, i, n);
        return n;
    }

    public int actsBy(int s, int sort, int at, int n) {
        Sheet sheet = sheetAt(s);
        if (sheet == null || sort < Sheet.BYTES || sort > Sheet.INTS || n < 0 || n > MOST_ACTS) {
            return BAD;
        }
        if (sheet.isMissing()) {
            return MISSING;
        }
        if (sheet.sort != sort) {
            return UNLIKE;
        }
        int came = 0;
        for (int i = 0; i < n; i++) {
            int place = at + 3 * i;
            if (!sheet.hasRow(place, 3)) {
                return OUTSIDE;
            }
            if (act(sheet.tell(place), sheet.tell(place + 1), sheet.tell(place + 2)) >= 0) {
                came++;
            }
        }
        return came;
    }

    public int taken(int i, int kind) {
        if (kind < 0 || kind > Act.KINDS) {
            return BAD;
        }
        if (i < 0 || i >= MOST_CHEESES + MOST_ACTS) {
            return OUTSIDE;
        }
        boolean forCheese = kind == Act.KINDS;
        if (i < MOST_CHEESES) {
            Cheese cheese = cheeseAt(i);
            if (cheese == null) {
                return MISSING;
            }
            return forCheese ? cheese.tell(Cheese.WEEKS) : UNLIKE;
        }
        Act act = actAt(i - MOST_CHEESES);
        if (act == null) {
            return MISSING;
        }
        return !forCheese && act.isOne(kind) ? i - MOST_CHEESES : UNLIKE;
    }

    // ---- what there is

    private Cheese cheeseAt(int s) {
        return s >= 0 && s < cheeseCount && s < cheeses.length ? cheeses[s] : null;
    }

    private Act actAt(int a) {
        return a >= 0 && a < actCount && a < acts.length ? acts[a] : null;
    }

    private Law lawAt(int t) {
        return t >= 0 && t < lawCount && t < laws.length ? laws[t] : null;
    }

    private Sheet sheetAt(int s) {
        return s >= 0 && s < sheets.length ? sheets[s] : null;
    }

    private boolean hasActs(int n) {
        return n >= 0 && n <= actCount;
    }

    private static boolean isByte(int b) {
        return b >= 0 && b <= 255;
    }

    private static boolean isBit(int b) {
        return b == 0 || b == 1;
    }

    private static boolean isSeed(int seed) {
        return seed >= 0 && seed <= LAST_SEED;
    }

    private static boolean isEvery(int every) {
        return every >= 1 && every <= LONGEST_EVERY;
    }

    private static void copyCheeses(Cheese[] from, Cheese[] to, int n) {
        for (int i = 0; i < n && i < from.length && i < to.length; i++) {
            if (from[i] != null && to[i] != null) {
                to[i].becomeLike(from[i]);
            }
        }
    }

    // ---- cooking

    private void beginPot() {
        kettle.begin(told[FLAME], told[WINE], told[SOUR], lawAt(lawNow));
    }

    /** The acts from one number up to, but without, another. */
    private void runActs(int from, int to) {
        for (int a = from; a < to; a++) {
            Act act = actAt(a);
            if (act != null) {
                kettle.undergo(act, cheeseAt(act.of));
            }
        }
    }

    private void cookActs(int n) {
        beginPot();
        runActs(0, n);
    }

    private void cookDrawn(int n, int seed) {
        beginPot();
        kettle.flickerBy(seed);
        runActs(0, n);
    }

    private boolean holdsWith(int flame, int wine, int sour) {
        kettle.begin(flame, wine, sour, lawAt(lawNow));
        runActs(0, actCount);
        return kettle.holdsNow();
    }

    private int firstSplit() {
        beginPot();
        for (int a = 0; a < actCount; a++) {
            runActs(a, a + 1);
            if (!kettle.holdsNow()) {
                return a;
            }
        }
        return NONE;
    }

    private int greatestLeak() {
        beginPot();
        int best = NONE;
        int mostMore = 0;
        for (int a = 0; a < actCount; a++) {
            int before = kettle.oil;
            runActs(a, a + 1);
            if (kettle.oil - before > mostMore) {
                best = a;
                mostMore = kettle.oil - before;
            }
        }
        return best;
    }

    /** How long the pot holds on end; all the minutes pass, as the end of the meal is asked for too. */
    private static int sitAtTable(Pot pot, int minutes, int every) {
        int held = 0;
        boolean stillHolds = pot.holdsNow();
        for (int minute = 1; minute <= minutes; minute++) {
            boolean dipped = every > 0 && minute % every == 0;
            if (dipped) {
                pot.beat(DIP);
            }
            pot.passMinute(dipped);
            stillHolds = stillHolds && pot.holdsNow();
            if (stillHolds) {
                held++;
            }
        }
        return held;
    }

    /** Why a sheet can't be held against the acts; 0, if it can. */
    private int refusedAsTest(Sheet sheet) {
        if (sheet == null) {
            return BAD;
        }
        if (sheet.isMissing()) {
            return MISSING;
        }
        return sheet.size == actCount ? 0 : BAD;
    }

    private boolean oilIsAsTold(Sheet oils, int law) {
        kettle.begin(told[FLAME], told[WINE], told[SOUR], lawAt(law));
        for (int a = 0; a < actCount; a++) {
            runActs(a, a + 1);
            if (kettle.oil != oils.tell(a)) {
                return false;
            }
        }
        return true;
    }

    private static int lowestTerm(int above, int below, int part) {
        int term = part == 0 ? above : below;
        for (int by = below; by > 1; by--) {
            if (above % by == 0 && below % by == 0) {
                return term / by;
            }
        }
        return term;
    }

    private static final class Cheese {
        static final int WEEKS = 0, FAT = 1, WET = 2, LIME = 3, TASTE = 4;
        private final int[] parts = new int[5];

        static boolean hasPart(int what) {
            return what >= WEEKS && what <= TASTE;
        }

        static boolean fits(int what, int v) {
            return hasPart(what) && v >= (what == WEEKS ? 1 : 0) && v <= 99;
        }

        int tell(int what) {
            return hasPart(what) ? parts[what] : 0;
        }

        void put(int what, int v) {
            if (hasPart(what)) {
                parts[what] = v;
            }
        }

        void becomeLike(Cheese other) {
            System.arraycopy(other.parts, 0, parts, 0, parts.length);
        }
    }

    private static final class Act {
        static final int PLAIN = 0, POUR = 1, HANDFUL = 2, STIR = 3, STARCH = 4, FLAME = 5, KINDS = 6;
        private int kind;
        private int more;
        private int of;

        static boolean fits(int kind, int more, int of) {
            return kind >= 0 && kind < KINDS && more >= 0 && more <= 9 && of >= 0 && of <= 9;
        }

        void become(int newKind, int newMore, int newOf) {
            kind = newKind;
            more = newMore;
            of = newOf;
        }

        int minutesLong() {
            switch (kind) {
                case PLAIN:
                case STIR:
                    return 1 + more;
                case FLAME:
                    return Math.max(1, more);
                default:
                    return 1;
            }
        }

        boolean isStirred() {
            return kind != PLAIN;
        }

        /** Whether the act may be taken for one of a kind: of its own, or of one that it is built on. */
        boolean isOne(int wanted) {
            return wanted == PLAIN || wanted == kind
                || wanted == POUR && kind == STARCH || wanted == STIR && kind == FLAME;
        }
    }

    /** What a text asks for, as code: operands ahead of what joins them. */
    private static final class Law {
        static final int MELT = 0, SPLIT = 1, THREAD = 2;
        // Numbers stand for themselves; all else is below 0.
        static final int FIRST_NAME = -1, LAST_NAME = -6;
        static final int NOT = -11, NEGATE = -12;
        static final int OR = -21, AND = -22, LESS = -23, LIKE = -24, PLUS = -25, MINUS = -26, TIMES = -27;
        private final int[] code;
        private final int meltEnd;
        private final int splitEnd;

        Law(int[] code, int meltEnd, int splitEnd) {
            this.code = code;
            this.meltEnd = meltEnd;
            this.splitEnd = splitEnd;
        }

        int startOf(int part) {
            return part == MELT ? 0 : part == SPLIT ? meltEnd : splitEnd;
        }

        int endOf(int part) {
            return part == MELT ? meltEnd : part == SPLIT ? splitEnd : code.length;
        }

        int codeAt(int i) {
            return i >= 0 && i < code.length ? code[i] : 0;
        }

        static int joined(int sign, int left, int right) {
            switch (sign) {
                case OR:
                    return left != 0 || right != 0 ? 1 : 0;
                case AND:
                    return left != 0 && right != 0 ? 1 : 0;
                case LESS:
                    return left < right ? 1 : 0;
                case LIKE:
                    return left == right ? 1 : 0;
                case PLUS:
                    return left + right;
                case MINUS:
                    return left - right;
                default:
                    return left * right;
            }
        }
    }

    /** The tape, and how a law is read from it: one token ahead, up to the first one that can't stand there. */
    private static final class Reader {
        private static final int MOST_BYTES = 160, MOST_OPEN = 5, LONGEST_NUMBER = 4, WORD_WIDTH = 7;
        private static final String SIGNS = "();+-*<=";
        // Each word is filled up with blanks to the width; no word that is read holds a blank.
        private static final String WORDS =
            "melt   split  thread or     and    not    heat   sour   starch water  fat    age    ";
        private static final int END = 0, WRONG = 1, NUMBER = 2;
        private static final int FIRST_WORD = 1000, OR = 1003, AND = 1004, NOT = 1005;
        private static final int FIRST_NAME = 1006, LAST_NAME = 1011;
        private static final int NO_FAULT = -1;

        private final int[] bytes = new int[MOST_BYTES];
        private int size;
        private int next;
        private int token;
        private int place;
        private int value;
        private int fault;
        private final int[] code = new int[MOST_BYTES];
        private int codeSize;
        private final int[] ends = new int[3];

        int size() {
            return size;
        }

        boolean hasRoom(int n) {
            return n <= MOST_BYTES - size;
        }

        void add(int b) {
            if (size < bytes.length) {
                bytes[size] = b;
                size++;
            }
        }

        int faultPlace() {
            return fault;
        }

        /** The law on the tape, null by a fault; either way the tape is empty then. */
        Law readLaw() {
            next = 0;
            fault = NO_FAULT;
            codeSize = 0;
            stepOn();
            for (int part = 0; part < ends.length; part++) {
                demand(FIRST_WORD + part);
                readAny(0);
                demand(';');
                ends[part] = codeSize;
            }
            demand(END);
            size = 0;
            if (fault != NO_FAULT || codeSize < 0 || codeSize > code.length) {
                return null;
            }
            int[] kept = new int[codeSize];
            System.arraycopy(code, 0, kept, 0, codeSize);
            return new Law(kept, ends[Law.MELT], ends[Law.SPLIT]);
        }

        private void readAny(int open) {
            readAll(open);
            for (int i = 0; i < MOST_BYTES && isNow(OR); i++) {
                stepOn();
                readAll(open);
                emit(Law.OR);
            }
        }

        private void readAll(int open) {
            readNot(open);
            for (int i = 0; i < MOST_BYTES && isNow(AND); i++) {
                stepOn();
                readNot(open);
                emit(Law.AND);
            }
        }

        private void readNot(int open) {
            if (isNow(NOT)) {
                if (mayOpen(open)) {
                    stepOn();
                    readNot(open + 1);
                    emit(Law.NOT);
                }
                return;
            }
            readSum(open);
            if (isNow('<') || isNow('=')) {
                int sign = token == '<' ? Law.LESS : Law.LIKE;
                stepOn();
                readSum(open);
                emit(sign);
            }
        }

        private void readSum(int open) {
            readTerm(open);
            for (int i = 0; i < MOST_BYTES && (isNow('+') || isNow('-')); i++) {
                int sign = token == '+' ? Law.PLUS : Law.MINUS;
                stepOn();
                readTerm(open);
                emit(sign);
            }
        }

        private void readTerm(int open) {
            readOne(open);
            for (int i = 0; i < MOST_BYTES && isNow('*'); i++) {
                stepOn();
                readOne(open);
                emit(Law.TIMES);
            }
        }

        private void readOne(int open) {
            if (isNow(NUMBER)) {
                emit(value);
                stepOn();
            } else if (fault == NO_FAULT && token >= FIRST_NAME && token <= LAST_NAME) {
                emit(Law.FIRST_NAME - (token - FIRST_NAME));
                stepOn();
            } else if (isNow('-')) {
                if (mayOpen(open)) {
                    stepOn();
                    readOne(open + 1);
                    emit(Law.NEGATE);
                }
            } else if (isNow('(')) {
                if (mayOpen(open)) {
                    stepOn();
                    readAny(open + 1);
                    demand(')');
                }
            } else {
                failHere();
            }
        }

        private boolean mayOpen(int open) {
            if (open >= MOST_OPEN) {
                failHere();
            }
            return open < MOST_OPEN;
        }

        private boolean isNow(int wanted) {
            return fault == NO_FAULT && token == wanted;
        }

        private void demand(int wanted) {
            if (isNow(wanted)) {
                stepOn();
            } else {
                failHere();
            }
        }

        /** Only the first fault counts; what is read behind it means nothing. */
        private void failHere() {
            if (fault == NO_FAULT) {
                fault = place;
            }
        }

        private void emit(int c) {
            if (fault == NO_FAULT && codeSize < code.length) {
                code[codeSize] = c;
                codeSize++;
            }
        }

        private int byteAt(int i) {
            return i >= 0 && i < size && i < bytes.length ? bytes[i] : NONE;
        }

        private void stepOn() {
            for (int i = next; i < size && (byteAt(i) == ' ' || byteAt(i) == '\n'); i++) {
                next = i + 1;
            }
            place = next;
            int b = byteAt(next);
            if (b == NONE) {
                token = END;
            } else if (isLetter(b)) {
                stepOverWord();
            } else if (isDigit(b)) {
                stepOverNumber();
            } else {
                next++;
                token = SIGNS.indexOf((char) b) >= 0 ? b : WRONG;
            }
        }

        private void stepOverWord() {
            for (int i = next; i < size && isLetter(byteAt(i)); i++) {
                next = i + 1;
            }
            token = WRONG;
            for (int first = 0; first < WORDS.length(); first += WORD_WIDTH) {
                if (isWordAt(first)) {
                    token = FIRST_WORD + first / WORD_WIDTH;
                }
            }
        }

        private boolean isWordAt(int first) {
            int wide = next - place;
            if (first < 0 || wide >= WORD_WIDTH || first > WORDS.length() - WORD_WIDTH) {
                return false;
            }
            for (int i = 0; i < wide; i++) {
                if (WORDS.charAt(first + i) != byteAt(place + i)) {
                    return false;
                }
            }
            return WORDS.charAt(first + wide) == ' ';
        }

        private void stepOverNumber() {
            value = 0;
            for (int i = next; i < size && isDigit(byteAt(i)); i++) {
                value = 10 * value + (byteAt(i) - '0');
                next = i + 1;
            }
            token = next - place > LONGEST_NUMBER ? WRONG : NUMBER;
        }

        private static boolean isLetter(int b) {
            return b >= 'a' && b <= 'z';
        }

        private static boolean isDigit(int b) {
            return b >= '0' && b <= '9';
        }
    }

    private static final class Pot {
        private static final int MOST_STACKED = 40, LAST_TOLD = 13;
        private static final int MULTIPLIER = 48271, MODULUS = 2147483647;
        private static final int SMOOTH = 0, THREADY = 1, GRAINY = 2, OILED = 3, LUMPED = 4, THICK = 5;
        private final int[] stack = new int[MOST_STACKED];
        private Law law;
        // 0 while the flame does not flicker: no lot that is drawn is 0.
        private long lot;
        private int flame;
        private int water;
        private int sour;
        private int heat;
        private int tied;
        private int free;
        private int held;
        private int drops;
        private int oil;
        private int starch;
        private int crust;
        private int minutes;
        private int much;
        private int allWeeks;

        void begin(int newFlame, int newWater, int newSour, Law newLaw) {
            law = newLaw;
            lot = 0;
            flame = newFlame;
            water = newWater;
            sour = newSour;
            heat = 20;
            tied = 0;
            free = 0;
            held = 0;
            drops = 0;
            oil = 0;
            starch = 0;
            crust = 0;
            minutes = 0;
            much = 0;
            allWeeks = 0;
        }

        void becomeLike(Pot other) {
            law = other.law;
            lot = other.lot;
            flame = other.flame;
            water = other.water;
            sour = other.sour;
            heat = other.heat;
            tied = other.tied;
            free = other.free;
            held = other.held;
            drops = other.drops;
            oil = other.oil;
            starch = other.starch;
            crust = other.crust;
            minutes = other.minutes;
            much = other.much;
            allWeeks = other.allWeeks;
        }

        void flickerBy(int seed) {
            lot = seed + 1;
        }

        void undergo(Act act, Cheese cheese) {
            switch (act.kind) {
                case Act.POUR:
                    pourIn(act.more, act.of);
                    break;
                case Act.HANDFUL:
                    if (cheese != null) {
                        throwIn(cheese, act.more);
                    }
                    break;
                case Act.STIR:
                    beat(act.more);
                    break;
                case Act.STARCH:
                    pourIn(act.more, act.of);
                    starch = Math.min(99, starch + act.more);
                    break;
                case Act.FLAME:
                    beat(act.more);
                    flame = act.of;
                    break;
                default:
                    break;
            }
            int passing = act.minutesLong();
            for (int m = 0; m < passing; m++) {
                passMinute(act.isStirred());
            }
        }

        private void pourIn(int more, int of) {
            water = Math.min(9999, water + more);
            sour = Math.min(99, sour + more * of / 4);
            heat = Math.max(0, heat - more / 2);
        }

        void throwIn(Cheese cheese, int handfuls) {
            much += handfuls;
            allWeeks += handfuls * cheese.tell(Cheese.WEEKS);
            tied += handfuls * cheese.tell(Cheese.LIME);
            held += handfuls * cheese.tell(Cheese.FAT);
            water += handfuls * cheese.tell(Cheese.WET);
            heat = Math.max(0, heat - handfuls);
        }

        void beat(int strength) {
            int returned = Math.min(oil, strength * (1 + starch + free / 20));
            oil -= returned;
            drops += returned;
            crust = Math.max(0, crust - strength);
        }

        void passMinute(boolean stirred) {
            minutes++;
            heat = Math.max(0, Math.min(120, heat + (12 * flame - heat) / 3 + flicker()));
            int melted = tied * worth(Law.MELT, 100) / 100;
            tied -= melted;
            free += melted;
            int gone = held * worth(Law.SPLIT, 100) / 100;
            held -= gone;
            if (stirred) {
                drops += gone;
            } else {
                oil += gone;
                settle();
            }
            water = Math.max(0, water - heat / 40);
        }

        private int flicker() {
            if (lot == 0) {
                return 0;
            }
            lot = lot * MULTIPLIER % MODULUS;
            return (int) (lot % 9) - 4;
        }

        private void settle() {
            int risen = drops / 2;
            drops -= risen;
            oil += risen;
            if (heat > 60) {
                crust += 1 + tied / 50;
            }
        }

        /** What the law says in one of its parts, 0 to a bound. */
        private int worth(int part, int most) {
            if (law == null) {
                return 0;
            }
            int top = 0;
            int end = law.endOf(part);
            for (int i = law.startOf(part); i < end; i++) {
                int c = law.codeAt(i);
                if (c >= Law.LAST_NAME) {
                    if (top < stack.length) {
                        stack[top] = c >= 0 ? c : named(c);
                        top++;
                    }
                } else if (c == Law.NOT || c == Law.NEGATE) {
                    if (top >= 1 && top <= stack.length) {
                        int one = stack[top - 1];
                        stack[top - 1] = c == Law.NEGATE ? -one : one == 0 ? 1 : 0;
                    }
                } else if (top >= 2 && top <= stack.length) {
                    stack[top - 2] = Law.joined(c, stack[top - 2], stack[top - 1]);
                    top--;
                }
            }
            return Math.max(0, Math.min(most, stack[0]));
        }

        private int named(int name) {
            switch (Law.FIRST_NAME - name) {
                case 0:
                    return heat;
                case 1:
                    return sour;
                case 2:
                    return starch;
                case 3:
                    return water;
                case 4:
                    return held;
                default:
                    return much > 0 ? allWeeks / much : 0;
            }
        }

        int thickness() {
            return (free + 3 * starch + drops) / Math.max(1, water / 10);
        }

        int threadsLong() {
            return free == 0 ? 0 : worth(Law.THREAD, 999);
        }

        boolean holdsNow() {
            return much == 0 || 4 * oil <= held + drops;
        }

        int sortNow() {
            if (much == 0) {
                return SMOOTH;
            }
            if (!holdsNow()) {
                return tied > free && water > 5 * much ? LUMPED : OILED;
            }
            if (tied > free) {
                return GRAINY;
            }
            if (thickness() > 60) {
                return THICK;
            }
            return threadsLong() > 40 ? THREADY : SMOOTH;
        }

        static boolean canTell(int what) {
            return what >= 0 && what <= LAST_TOLD;
        }

        int tell(int what) {
            switch (what) {
                case 0:
                    return tied;
                case 1:
                    return free;
                case 2:
                    return held;
                case 3:
                    return drops;
                case 4:
                    return oil;
                case 5:
                    return water;
                case 6:
                    return sour;
                case 7:
                    return starch;
                case 8:
                    return heat;
                case 9:
                    return minutes;
                case 10:
                    return crust;
                case 11:
                    return thickness();
                case 12:
                    return threadsLong();
                default:
                    return sortNow();
            }
        }
    }

    /** A row of numbers; without a sort it is missing. */
    private static final class Sheet {
        static final int NO_SORT = -1, BYTES = 0, SHORTS = 1, INTS = 2, LONGEST = 40;
        private final int[] numbers = new int[LONGEST];
        private int sort = NO_SORT;
        private int size;

        void become(int newSort, int newSize) {
            sort = newSort;
            size = Math.max(0, Math.min(LONGEST, newSize));
            for (int i = 0; i < numbers.length; i++) {
                numbers[i] = 0;
            }
        }

        boolean isMissing() {
            return sort == NO_SORT;
        }

        /** Whether n numbers from a place on lie inside. */
        boolean hasRow(int from, int n) {
            return from >= 0 && n >= 0 && n <= size && from <= size - n;
        }

        int tell(int i) {
            return hasRow(i, 1) ? numbers[i] : 0;
        }

        void put(int i, int v) {
            if (hasRow(i, 1)) {
                numbers[i] = sort == BYTES ? (byte) v : sort == SHORTS ? (short) v : v;
            }
        }

        void takeRow(int to, Sheet other, int from, int n) {
            if (hasRow(to, n) && other.hasRow(from, n)) {
                System.arraycopy(other.numbers, from, numbers, to, n);
            }
        }
    }
}
