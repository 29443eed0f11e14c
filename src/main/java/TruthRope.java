/**
 * A circus whose tightropes are statements: each bears by how much of it is so.
 * The document's numbered promises say what each call answers; README.md says where things stand here.
 */
public final class TruthRope {
    public static final int BAD = -1, FULL = -2, NONE = -3;

    private static final int NO_SUCH_ROW = -9;
    private static final int MISSING = -11, OUTSIDE = -12, OTHER_SORT = -13, BELOW_ZERO = -14, PARTED_BY_ZERO = -15;

    private static final int FAULT_BASE = -100;
    private static final int DOES_BASE = 1000;

    private static final int PLANK = 0, BUT = 1, WIT = 2, DOUBT = 3, LAWS = 4;
    private static final int[] FIRST_LAWS = {8, 3, 2, 20};
    private static final int[] HIGHEST_LAWS = {9, 9, 9, 99};

    private static final int WALKER = 0, CLOWN = 1, CHILD = 2, JESTER = 3, SAINT = 4, THINKER = 5, KINDS = 6;
    private static final int[] KIND_ABOVE = {-1, WALKER, WALKER, CLOWN, CHILD, WALKER};

    private static final int FACTS = 8, FACT_SETS = 256, ALL_FACTS = 255;
    private static final int MOST_WALKERS = 8, HIGHEST_WEIGHT = 99, TEXT_WEIGHT = 10, FAR_END = 20;
    private static final int MOST_STEPS = 60, MOST_PLANNED = 30, MOST_ROWS = 10, ROW_ITEMS = 3;
    private static final int TAPE_BYTES = 200, SHEETS = 4, SHEET_ITEMS = 40, SHELVES = 4, NOBODY = -1;
    private static final int BYTES = 0, SHORTS = 1, SORTS = 4, ROW_AS = 10, NO_SHEET = -1, ANY_PLACE = -1;
    private static final int MOST_ODDS = 8, MOST_HOPE = 99, HUNDRED = 100;

    private static final int LEANS = 0, SWAYS = 1, PARTS = 2, ACTS = 4;
    private static final int MOST_TRACED = 30, DEEPEST = 40;

    /** By KIND, four each: the body that leans, sways, parts and treads run for it. */
    private static final int[] BODIES = {
        10, 11, 12, 13,
        10, 20, 12, 13,
        30, 11, 12, 31,
        51, 20, 50, 13,
        40, 41, 12, 31,
        10, 11, 61, 60,
    };

    private final Ring now = new Ring();
    private final Ring tried = new Ring();
    private final Ring kept = new Ring();
    private boolean anyKept = false;
    private final Trial trial = new Trial();
    private final Text text = new Text();
    private final Deed deed = new Deed();
    private final int[] rows = new int[MOST_ROWS * ROW_ITEMS];
    private int rowCount = 0;
    private final Strip[] sheets = new Strip[SHEETS];
    private final Strip[] shelfStrips = new Strip[SHELVES];
    private final int[] shelfWalkers = {NOBODY, NOBODY, NOBODY, NOBODY};

    public TruthRope() {
    }

    public int feed(long eight, int n) {
        if (!within(n, 1, 8)) {
            return BAD;
        }
        if (text.length + n > TAPE_BYTES) {
            return FULL;
        }
        for (int i = 0; i < n; i++) {
            text.append((byte) (eight >>> (8 * i)));
        }
        return text.length;
    }

    public int circus() {
        tried.clear();
        tried.z = now.z;
        int fault = text.readInto(tried);
        text.length = 0;
        if (fault >= 0) {
            return FAULT_BASE - fault;
        }
        now.copy(tried);
        rowCount = 0;
        return now.walkers;
    }

    public int set(int law, int v) {
        if (!within(law, 0, LAWS - 1) || !within(v, 0, HIGHEST_LAWS[law])) {
            return BAD;
        }
        int was = now.laws[law];
        now.laws[law] = v;
        return was;
    }

    public int lawOf(int law) {
        return within(law, 0, LAWS - 1) ? now.laws[law] : BAD;
    }

    public int fact(int fact, int v) {
        if (!within(fact, 0, FACTS - 1) || !within(v, 0, 1)) {
            return BAD;
        }
        int was = (now.facts >> fact) & 1;
        now.facts = withBit(now.facts, fact, v == 1);
        return was;
    }

    public int walker(int kind, int weight) {
        if (!isKind(kind) || !isWeight(weight)) {
            return BAD;
        }
        return now.add(kind, weight);
    }

    public int of(int walker, int what) {
        if (!isWalker(walker)) {
            return BAD;
        }
        switch (what) {
            case 0: return now.kind[walker];
            case 1: return now.weight[walker];
            case 2: return now.place[walker];
            case 3: return now.yes[walker];
            case 4: return now.no[walker];
            case 5: return (now.fallen >> walker) & 1;
            default: return BAD;
        }
    }

    public int does(int walker, int what) {
        if (!isWalker(walker)) {
            return BAD;
        }
        trial.begin(now, walker, now.facts);
        switch (what) {
            case 0: return DOES_BASE + trial.bears();
            case 1: return DOES_BASE + trial.strides();
            case 2: return DOES_BASE + trial.right;
            case 3: return DOES_BASE + trial.wrong;
            default: return BAD;
        }
    }

    public int mind(int walker, int kind, int weight) {
        if (!isWalker(walker) || !isKind(kind) || !isWeight(weight)) {
            return BAD;
        }
        int was = now.kind[walker];
        now.kind[walker] = kind;
        now.weight[walker] = weight;
        return was;
    }

    public int say(int walker, int yes, int no) {
        if (!isWalker(walker) || !isFactSet(yes) || !isFactSet(no) || (yes & no) != 0) {
            return BAD;
        }
        int was = now.saidBy(walker);
        now.yes[walker] = yes;
        now.no[walker] = no;
        return was;
    }

    public int stand(int walker, int place) {
        if (!isWalker(walker) || !within(place, 0, FAR_END)) {
            return BAD;
        }
        int was = now.place[walker];
        now.place[walker] = place;
        now.fallen = withBit(now.fallen, walker, false);
        return was;
    }

    public int steps(int n) {
        if (!within(n, 1, MOST_STEPS)) {
            return BAD;
        }
        for (int i = 0; i < n; i++) {
            now.tread(trial);
        }
        return Integer.bitCount(now.across());
    }

    public int seed(int v) {
        int was = now.z;
        now.z = v;
        return was;
    }

    public int step() {
        now.treadByDraws(trial);
        return Integer.bitCount(now.across());
    }

    public int luck(int n) {
        if (!within(n, 1, MOST_PLANNED)) {
            return BAD;
        }
        tried.copy(now);
        tried.tread(trial);
        int sure = Integer.bitCount(tried.fallen);
        int worse = 0;
        int z = now.z;
        for (int i = 0; i < n; i++) {
            tried.copy(now);
            tried.z = z;
            tried.treadByDraws(trial);
            z = tried.z;
            if (Integer.bitCount(tried.fallen) > sure) {
                worse++;
            }
        }
        return worse;
    }

    public int state(int what) {
        switch (what) {
            case 0: return now.stepsTaken;
            case 1: return now.across();
            case 2: return now.fallen;
            case 3: return now.facts;
            case 4: return now.placesTogether();
            case 5: return now.held();
            default: return BAD;
        }
    }

    public int reaches(int walker, int n) {
        if (!isWalker(walker) || !within(n, 0, MOST_STEPS)) {
            return BAD;
        }
        trial.begin(now, walker, now.facts);
        trial.go(n);
        return trial.place;
    }

    public int over(int walker) {
        if (!isWalker(walker)) {
            return BAD;
        }
        int steps = stepsToRest(walker);
        return trial.isAcross() ? steps : NONE;
    }

    public int falls(int walker) {
        if (!isWalker(walker)) {
            return BAD;
        }
        int steps = stepsToRest(walker);
        return trial.fallen ? steps : NONE;
    }

    public int end() {
        int latest = 0;
        for (int i = 0; i < now.walkers; i++) {
            int steps = stepsToRest(i);
            if (!trial.isAtRest()) {
                return NONE;
            }
            latest = Math.max(latest, steps);
        }
        return latest;
    }

    public int sayFor(int walker, int n) {
        if (!isWalker(walker) || !within(n, 1, MOST_PLANNED)) {
            return BAD;
        }
        for (int said = 0; said <= FACTS; said++) {
            int rights = rightsThatCross(walker, n, said);
            if (rights != 0) {
                return leastSaying(said, rights);
            }
        }
        return NONE;
    }

    public int kindFor(int walker, int n) {
        if (!isWalker(walker) || !within(n, 1, MOST_PLANNED)) {
            return BAD;
        }
        int best = WALKER;
        int farthest = -1;
        for (int kind = 0; kind < KINDS; kind++) {
            trial.begin(now, walker, now.facts);
            trial.kind = kind;
            trial.go(n);
            if (trial.place > farthest) {
                farthest = trial.place;
                best = kind;
            }
        }
        return best;
    }

    public int turnedFor(int walker, int n) {
        if (!isWalker(walker) || !within(n, 1, MOST_PLANNED)) {
            return BAD;
        }
        trial.begin(now, walker, now.facts);
        trial.go(n);
        int best = NONE;
        int farthest = trial.place;
        for (int fact = 0; fact < FACTS; fact++) {
            trial.begin(now, walker, now.facts ^ (1 << fact));
            trial.go(n);
            if (trial.place > farthest) {
                farthest = trial.place;
                best = fact;
            }
        }
        return best;
    }

    public int loadFor(int walker, int n) {
        if (!isWalker(walker) || !within(n, 1, MOST_PLANNED)) {
            return BAD;
        }
        for (int weight = HIGHEST_WEIGHT; weight >= 0; weight--) {
            trial.begin(now, walker, now.facts);
            trial.weight = weight;
            trial.go(n);
            if (trial.isAcross()) {
                return weight;
            }
        }
        return NONE;
    }

    public int both(int walker, int other, int what) {
        if (!isWalker(walker) || !isWalker(other) || walker == other) {
            return BAD;
        }
        switch (what) {
            case 0:
                return Integer.bitCount(now.yes[walker] & now.yes[other])
                    + Integer.bitCount(now.no[walker] & now.no[other]);
            case 1:
                return Integer.bitCount(now.yes[walker] & now.no[other])
                    + Integer.bitCount(now.no[walker] & now.yes[other]);
            default:
                return BAD;
        }
    }

    public int fits(int sheet, int walker, int what) {
        if (!isSheet(sheet) || !isWalker(walker) || !within(what, 0, 1)) {
            return BAD;
        }
        Strip told = sheets[sheet];
        if (told == null) {
            return MISSING;
        }
        int rights = rightsAsTold(walker, told);
        int found = 0;
        for (int set = 0; set < FACT_SETS; set++) {
            if (hasBit(rights, now.rightOf(walker, set))) {
                if (what == 1) {
                    return set;
                }
                found++;
            }
        }
        return what == 1 ? NONE : found;
    }

    public long odds(int n, int k, int part) {
        if (!within(n, 0, MOST_ODDS) || !within(k, 0, n) || !within(part, 0, 1)) {
            return BAD;
        }
        int doubt = now.laws[DOUBT];
        long above = choices(n, k);
        long below = 1;
        for (int i = 0; i < n; i++) {
            above *= i < k ? doubt : HUNDRED - doubt;
            below *= HUNDRED;
        }
        return partOf(above, below, part);
    }

    public long hope(int n, int part) {
        if (!within(n, 0, MOST_HOPE) || !within(part, 0, 1)) {
            return BAD;
        }
        return partOf((long) n * now.laws[DOUBT], HUNDRED, part);
    }

    public int prove(int walker, int n) {
        if (!isWalker(walker) || !within(n, 1, MOST_ROWS)) {
            return BAD;
        }
        tried.copy(now);
        for (int i = 0; i < n; i++) {
            tried.tread(trial);
            for (int what = 0; what < ROW_ITEMS; what++) {
                rows[i * ROW_ITEMS + what] = tried.rowItem(walker, what);
            }
        }
        rowCount = n;
        return n;
    }

    public int row(int i, int what) {
        return isRowItem(i, what) ? rows[i * ROW_ITEMS + what] : NO_SUCH_ROW;
    }

    public int alterRow(int i, int what, int v) {
        if (!isRowItem(i, what)) {
            return NO_SUCH_ROW;
        }
        int was = rows[i * ROW_ITEMS + what];
        rows[i * ROW_ITEMS + what] = v;
        return was;
    }

    public int judge(int walker) {
        if (!isWalker(walker)) {
            return BAD;
        }
        tried.copy(now);
        for (int i = 0; i < rowCount; i++) {
            tried.tread(trial);
            for (int what = 0; what < ROW_ITEMS; what++) {
                if (rows[i * ROW_ITEMS + what] != tried.rowItem(walker, what)) {
                    return i + 1;
                }
            }
        }
        return 0;
    }

    public int minds(int sheet, int i, int walker, int n) {
        if (!isSheet(sheet) || !isWalker(walker) || !within(n, 0, MOST_WALKERS) || walker + n > now.walkers) {
            return BAD;
        }
        Strip strip = sheets[sheet];
        if (strip == null) {
            return MISSING;
        }
        if (strip.sort != BYTES) {
            return OTHER_SORT;
        }
        if (!within(i, 0, strip.items.length) || n > strip.items.length - i) {
            return OUTSIDE;
        }
        for (int j = 0; j < n; j++) {
            now.weight[walker + j] = Math.max(0, Math.min(HIGHEST_WEIGHT, strip.items[i + j]));
        }
        return n;
    }

    public int sheet(int sheet, int sort, int n) {
        if (!isSheet(sheet)) {
            return BAD;
        }
        if (sort == NO_SHEET) {
            sheets[sheet] = null;
            return 1;
        }
        if (!isSort(sort) || n > SHEET_ITEMS) {
            return BAD;
        }
        if (n < 0) {
            return BELOW_ZERO;
        }
        sheets[sheet] = new Strip(sort, n);
        return 1;
    }

    public int put(int sheet, int i, int v) {
        if (!isSheet(sheet)) {
            return BAD;
        }
        Strip strip = sheets[sheet];
        if (strip == null) {
            return MISSING;
        }
        if (!within(i, 0, strip.items.length - 1)) {
            return OUTSIDE;
        }
        strip.items[i] = strip.narrowed(v);
        return 1;
    }

    public int item(int sheet, int sort, int i) {
        if (!isSheet(sheet) || !isSort(sort)) {
            return BAD;
        }
        Strip strip = sheets[sheet];
        if (strip == null) {
            return MISSING;
        }
        if (strip.sort != sort) {
            return OTHER_SORT;
        }
        return within(i, 0, strip.items.length - 1) ? strip.items[i] : OUTSIDE;
    }

    public int shelf(int shelf, int what, int n) {
        if (!isShelf(shelf)) {
            return BAD;
        }
        switch (what) {
            case 0:
                if (!isWalker(n)) {
                    return BAD;
                }
                return putOnShelf(shelf, n, null);
            case 1:
                if (!isSheet(n)) {
                    return BAD;
                }
                return putOnShelf(shelf, NOBODY, sheets[n]);
            case 2:
                return putOnShelf(shelf, NOBODY, null);
            default:
                return BAD;
        }
    }

    public int taken(int shelf, int as) {
        boolean asThing = isKind(as);
        if (!isShelf(shelf) || !asThing && !isSort(as - ROW_AS)) {
            return BAD;
        }
        Strip strip = shelfStrips[shelf];
        if (strip != null) {
            return !asThing && strip.sort == as - ROW_AS ? strip.items.length : OTHER_SORT;
        }
        int walker = shelfWalkers[shelf];
        if (!isWalker(walker)) {
            return MISSING;
        }
        return asThing && isUnder(now.kind[walker], as) ? walker : OTHER_SORT;
    }

    public int act(int shelf, int act, int x) {
        deed.forget();
        if (!isShelf(shelf) || !within(act, 0, ACTS - 1) || !isWalker(shelfWalkers[shelf])) {
            return 0;
        }
        int walker = shelfWalkers[shelf];
        return deed.perform(now.kind[walker], walker, now.place[walker], act, x);
    }

    public int trace(int i) {
        return within(i, 0, deed.traced - 1) ? deed.trace[i] : NONE;
    }

    public int many(int what) {
        switch (what) {
            case 0: return now.walkers;
            case 1: return Integer.bitCount(now.across());
            case 2: return Integer.bitCount(now.fallen);
            case 3: return Integer.bitCount(now.facts);
            case 4: return rowCount;
            case 5: return text.length;
            case 6: return deed.traced;
            default: return BAD;
        }
    }

    public int keep() {
        kept.copy(now);
        anyKept = true;
        return 1;
    }

    public int again() {
        if (!anyKept) {
            return NONE;
        }
        now.copy(kept);
        return now.walkers;
    }

    private static boolean within(int v, int least, int most) {
        return v >= least && v <= most;
    }

    private static boolean isKind(int kind) {
        return within(kind, 0, KINDS - 1);
    }

    private static boolean isWeight(int weight) {
        return within(weight, 0, HIGHEST_WEIGHT);
    }

    private static boolean isFactSet(int set) {
        return within(set, 0, ALL_FACTS);
    }

    private static boolean isSheet(int sheet) {
        return within(sheet, 0, SHEETS - 1);
    }

    private static boolean isSort(int sort) {
        return within(sort, 0, SORTS - 1);
    }

    private static boolean isShelf(int shelf) {
        return within(shelf, 0, SHELVES - 1);
    }

    private boolean isWalker(int walker) {
        return within(walker, 0, now.walkers - 1);
    }

    private boolean isRowItem(int i, int what) {
        return within(i, 0, rowCount - 1) && within(what, 0, ROW_ITEMS - 1);
    }

    private static boolean hasBit(int set, int bit) {
        return ((set >> bit) & 1) == 1;
    }

    private static int withBit(int set, int bit, boolean in) {
        return in ? set | (1 << bit) : set & ~(1 << bit);
    }

    private static boolean isUnder(int kind, int above) {
        int k = kind;
        for (int i = 0; i < KINDS && isKind(k); i++) {
            if (k == above) {
                return true;
            }
            k = KIND_ABOVE[k];
        }
        return false;
    }

    private int putOnShelf(int shelf, int walker, Strip strip) {
        shelfWalkers[shelf] = walker;
        shelfStrips[shelf] = strip;
        return 1;
    }

    /** Leaves the trial where the one comes to rest, so that the caller sees which way it did. */
    private int stepsToRest(int walker) {
        trial.begin(now, walker, now.facts);
        int steps = 0;
        while (steps < MOST_STEPS && !trial.isAtRest()) {
            trial.tread();
            steps++;
        }
        return steps;
    }

    /** As bits: of how many RIGHT ones a SAYING of so many FACTS brings it over. Which ones they are counts nothing. */
    private int rightsThatCross(int walker, int n, int said) {
        int rights = 0;
        for (int right = 0; right <= said; right++) {
            trial.begin(now, walker, now.facts);
            trial.hear(right, said - right);
            trial.go(n);
            rights = withBit(rights, right, trial.isAcross());
        }
        return rights;
    }

    /** As bits: with how many RIGHT ones of its own SAYING it goes as the strip tells. */
    private int rightsAsTold(int walker, Strip told) {
        int rights = 0;
        int said = now.saidBy(walker);
        for (int right = 0; right <= said; right++) {
            trial.begin(now, walker, now.facts);
            trial.hear(right, said - right);
            rights = withBit(rights, right, trial.goesAs(told));
        }
        return rights;
    }

    private int leastSaying(int said, int rights) {
        for (int yes = 0; yes < FACT_SETS; yes++) {
            if (mayBeYes(yes, said, rights)) {
                return yes * FACT_SETS + leastNo(yes, said, rights);
            }
        }
        return NONE;
    }

    /** Looks by counts alone whether any NO goes with this YES: trying all pairs of sets would be 256 times dearer. */
    private boolean mayBeYes(int yes, int said, int rights) {
        int denied = said - Integer.bitCount(yes);
        int open = ALL_FACTS & ~yes;
        int openSo = Integer.bitCount(open & now.facts);
        int openNotSo = Integer.bitCount(open & ~now.facts);
        int rightInYes = Integer.bitCount(yes & now.facts);
        for (int right = Math.max(0, denied - openSo); right <= Math.min(denied, openNotSo); right++) {
            if (hasBit(rights, rightInYes + right)) {
                return true;
            }
        }
        return false;
    }

    private int leastNo(int yes, int said, int rights) {
        int denied = said - Integer.bitCount(yes);
        for (int no = 0; no < FACT_SETS; no++) {
            if ((yes & no) == 0 && Integer.bitCount(no) == denied
                    && hasBit(rights, rightOf(yes, no, now.facts))) {
                return no;
            }
        }
        return 0;
    }

    private static int rightOf(int yes, int no, int facts) {
        return Integer.bitCount(yes & facts) + Integer.bitCount(no & ~facts);
    }

    private static long choices(int n, int k) {
        long ways = 1;
        for (int i = 1; i <= k; i++) {
            ways = ways * (n - k + i) / i;
        }
        return ways;
    }

    private static long partOf(long above, long below, int part) {
        long common = commonDivisor(above, below);
        if (common == 0) {
            return 0;
        }
        return (part == 0 ? above : below) / common;
    }

    private static long commonDivisor(long one, long other) {
        long a = one;
        long b = other;
        for (int i = 0; i < 100 && b != 0; i++) {
            long left = a % b;
            a = b;
            b = left;
        }
        return a;
    }

    /** All that keep() keeps. There are three of these, made once, so that no try makes an object. */
    private static final class Ring {
        final int[] laws = new int[LAWS];
        int facts;
        int stepsTaken;
        int z = 1;
        int walkers;
        final int[] kind = new int[MOST_WALKERS];
        final int[] weight = new int[MOST_WALKERS];
        final int[] place = new int[MOST_WALKERS];
        final int[] yes = new int[MOST_WALKERS];
        final int[] no = new int[MOST_WALKERS];
        int fallen;

        Ring() {
            clear();
        }

        void clear() {
            System.arraycopy(FIRST_LAWS, 0, laws, 0, LAWS);
            facts = 0;
            stepsTaken = 0;
            walkers = 0;
            fallen = 0;
        }

        void copy(Ring from) {
            System.arraycopy(from.laws, 0, laws, 0, LAWS);
            facts = from.facts;
            stepsTaken = from.stepsTaken;
            z = from.z;
            walkers = from.walkers;
            System.arraycopy(from.kind, 0, kind, 0, MOST_WALKERS);
            System.arraycopy(from.weight, 0, weight, 0, MOST_WALKERS);
            System.arraycopy(from.place, 0, place, 0, MOST_WALKERS);
            System.arraycopy(from.yes, 0, yes, 0, MOST_WALKERS);
            System.arraycopy(from.no, 0, no, 0, MOST_WALKERS);
            fallen = from.fallen;
        }

        int add(int newKind, int newWeight) {
            if (walkers >= MOST_WALKERS) {
                return FULL;
            }
            int number = walkers;
            kind[number] = newKind;
            weight[number] = newWeight;
            place[number] = 0;
            yes[number] = 0;
            no[number] = 0;
            walkers++;
            return number;
        }

        int saidBy(int walker) {
            return Integer.bitCount(yes[walker] | no[walker]);
        }

        int rightOf(int walker, int so) {
            return TruthRope.rightOf(yes[walker], no[walker], so);
        }

        void tread(Trial trial) {
            for (int i = 0; i < walkers; i++) {
                trial.begin(this, i, facts);
                trial.tread();
                place[i] = trial.place;
                fallen = withBit(fallen, i, trial.fallen);
            }
            stepsTaken++;
        }

        int draw() {
            z = z * 1103515245 + 12345;
            return z >>> 16;
        }

        void treadByDraws(Trial trial) {
            int fact = draw() % FACTS;
            if (draw() % HUNDRED < laws[DOUBT]) {
                facts ^= 1 << fact;
            }
            tread(trial);
        }

        int across() {
            int set = 0;
            for (int i = 0; i < walkers; i++) {
                set = withBit(set, i, place[i] == FAR_END);
            }
            return set;
        }

        int placesTogether() {
            int sum = 0;
            for (int i = 0; i < walkers; i++) {
                sum += place[i];
            }
            return sum;
        }

        /** No two of a set CLASH just if nothing that one says to be SO is denied in all that they say together. */
        int held() {
            int most = 0;
            for (int set = 0; set < (1 << walkers); set++) {
                int said = 0;
                int denied = 0;
                for (int i = 0; i < walkers; i++) {
                    if (hasBit(set, i)) {
                        said |= yes[i];
                        denied |= no[i];
                    }
                }
                if ((said & denied) == 0) {
                    most = Math.max(most, Integer.bitCount(set));
                }
            }
            return most;
        }

        int rowItem(int walker, int what) {
            switch (what) {
                case 0: return place[walker];
                case 1: return (fallen >> walker) & 1;
                default: return Integer.bitCount(across());
            }
        }
    }

    /** One walker alone: none hinders another, so a question about one needn't move the rest. */
    private static final class Trial {
        int plank;
        int but;
        int wit;
        int stepsTaken;
        int kind;
        int weight;
        int place;
        int right;
        int wrong;
        boolean fallen;

        void begin(Ring ring, int walker, int facts) {
            plank = ring.laws[PLANK];
            but = ring.laws[BUT];
            wit = ring.laws[WIT];
            stepsTaken = ring.stepsTaken;
            kind = ring.kind[walker];
            weight = ring.weight[walker];
            place = ring.place[walker];
            fallen = hasBit(ring.fallen, walker);
            int rightNow = ring.rightOf(walker, facts);
            hear(rightNow, ring.saidBy(walker) - rightNow);
        }

        void hear(int rightNow, int wrongNow) {
            right = rightNow;
            wrong = wrongNow;
        }

        boolean isAcross() {
            return place == FAR_END;
        }

        boolean isAtRest() {
            return fallen || isAcross();
        }

        int bears() {
            switch (kind) {
                case CLOWN: return bearsAsClown();
                case JESTER: return bearsAsClown() + wit;
                case CHILD: return bearsAsChild();
                case SAINT: return 2 * bearsAsChild();
                case THINKER: return 90 - 10 * place - (right + wrong > 0 ? 50 : 0);
                default: return bearsAsWalker();
            }
        }

        int bearsAsWalker() {
            return plank * right - but * wrong;
        }

        int bearsAsClown() {
            return plank * wrong - but * right;
        }

        int bearsAsChild() {
            return bearsAsWalker() + 2 * (FACTS - right - wrong);
        }

        int strides() {
            switch (kind) {
                case CLOWN: return 2;
                case JESTER: return (stepsTaken & 1) == 0 ? 3 : 2;
                case SAINT: return 1 + right;
                default: return 1;
            }
        }

        void tread() {
            if (!isAtRest()) {
                if (bears() >= weight) {
                    place = Math.min(FAR_END, place + strides());
                } else {
                    fallen = true;
                }
            }
            stepsTaken++;
        }

        void go(int n) {
            for (int i = 0; i < n && !isAtRest(); i++) {
                tread();
            }
        }

        boolean goesAs(Strip told) {
            for (int i = 0; i < told.items.length; i++) {
                tread();
                if (told.items[i] != ANY_PLACE && told.items[i] != place) {
                    return false;
                }
            }
            return true;
        }
    }

    /** A SHEET's row. An int holds any item of any sort here: put() brings no wider number. */
    private static final class Strip {
        final int sort;
        final int[] items;

        Strip(int sort, int n) {
            this.sort = sort;
            this.items = new int[Math.max(0, n)];
        }

        int narrowed(int v) {
            switch (sort) {
                case BYTES: return (byte) v;
                case SHORTS: return (short) v;
                default: return v;
            }
        }
    }

    /** An act of one thing. After a parting by 0 nothing more is traced, which stands for breaking off at once. */
    private static final class Deed {
        final int[] trace = new int[MOST_TRACED];
        int traced;
        boolean parted;
        int kind;
        int number;
        int place;

        void forget() {
            traced = 0;
            parted = false;
        }

        int perform(int asKind, int asNumber, int asPlace, int act, int x) {
            kind = asKind;
            number = asNumber;
            place = asPlace;
            int answer = run(ownBody(act), x, 0);
            return parted ? PARTED_BY_ZERO : answer;
        }

        int ownBody(int act) {
            int i = kind * ACTS + act;
            return within(i, 0, BODIES.length - 1) ? BODIES[i] : 0;
        }

        void begin(int body) {
            if (!parted && traced < MOST_TRACED) {
                trace[traced] = body;
                traced++;
            }
        }

        int run(int body, int x, int depth) {
            if (depth > DEEPEST) {
                return 0;
            }
            begin(body);
            int d = depth + 1;
            switch (body) {
                case 10: return x * 8 - number;
                case 11: return run(ownBody(LEANS), x, d) + place;
                case 12: return quotient(x, place - number);
                case 13: return run(ownBody(SWAYS), x, d) ^ 110;
                case 20: return 0 - run(11, x, d);
                case 30: return run(10, x, d) + 7;
                case 31: return run(13, x, d) - run(ownBody(PARTS), number, d);
                case 40: return run(30, x, d) * 2;
                case 41: return run(11, x, d) - run(ownBody(LEANS), place, d);
                case 50: return run(12, x + 4, d) - number;
                case 51: return run(10, x, d) ^ 3;
                case 60: return run(13, x, d) * 4;
                case 61: return run(12, x, d) + run(ownBody(LEANS), number, d);
                default: return 0;
            }
        }

        int quotient(int x, int by) {
            if (by == 0) {
                parted = true;
                return 0;
            }
            return x / by;
        }
    }

    /** THE TAPE and its reader. Only the first fault is kept: what is read after it counts nothing. */
    private static final class Text {
        static final int END = 0, NAME = 1, NUMBER = 2, OTHER = 3;
        static final int MOST_DIGITS = 3, NO_FAULT = -1, NOT_NAMED = -1;

        final byte[] bytes = new byte[TAPE_BYTES];
        int length;
        int token = END;
        int from;
        int next;
        int fault = NO_FAULT;

        void append(byte b) {
            if (length < TAPE_BYTES) {
                bytes[length] = b;
                length++;
            }
        }

        int readInto(Ring ring) {
            fault = NO_FAULT;
            next = 0;
            advance();
            for (int i = 0; i < TAPE_BYTES && token != END && fault == NO_FAULT; i++) {
                readOne(ring);
            }
            return fault;
        }

        void readOne(Ring ring) {
            int kind = kindNamed();
            int law = lawNamed();
            if (kind != NOT_NAMED && ring.walkers < MOST_WALKERS) {
                advance();
                readWalker(ring, ring.add(kind, TEXT_WEIGHT));
            } else if (law != NOT_NAMED) {
                advance();
                ring.laws[law] = readNumber(HIGHEST_LAWS[law], 0);
            } else if (isNamed("fact")) {
                advance();
                ring.facts |= 1 << readNumber(FACTS - 1, 0);
            } else {
                fail();
            }
            readClose();
        }

        void readWalker(Ring ring, int walker) {
            ring.weight[walker] = readOption("weight", HIGHEST_WEIGHT, 0, TEXT_WEIGHT);
            ring.place[walker] = readOption("at", FAR_END, 0, 0);
            ring.yes[walker] = readOption("says", ALL_FACTS, 0, 0);
            ring.no[walker] = readOption("denies", ALL_FACTS, ring.yes[walker], 0);
        }

        int readOption(String name, int most, int barredBits, int without) {
            if (!isNamed(name)) {
                return without;
            }
            advance();
            return readNumber(most, barredBits);
        }

        int readNumber(int most, int barredBits) {
            int number = tokenNumber();
            if (number < 0 || number > most || (number & barredBits) != 0) {
                fail();
                return 0;
            }
            advance();
            return number;
        }

        void readClose() {
            if (token == OTHER && from < length && bytes[from] == ';') {
                advance();
            } else {
                fail();
            }
        }

        void fail() {
            if (fault == NO_FAULT) {
                fault = from;
            }
        }

        void advance() {
            int at = next;
            while (at < length && bytes[at] == ' ') {
                at++;
            }
            from = at;
            if (at >= length) {
                token = END;
            } else if (isLetter(bytes[at])) {
                token = NAME;
                while (at < length && isLetter(bytes[at])) {
                    at++;
                }
            } else if (isDigit(bytes[at])) {
                token = NUMBER;
                while (at < length && isDigit(bytes[at])) {
                    at++;
                }
            } else {
                token = OTHER;
                at++;
            }
            next = at;
        }

        static boolean isLetter(byte b) {
            return b >= 'a' && b <= 'z';
        }

        static boolean isDigit(byte b) {
            return b >= '0' && b <= '9';
        }

        /** The number that stands here, or one below 0, if none does or it has too many digits. */
        int tokenNumber() {
            if (token != NUMBER || next - from > MOST_DIGITS) {
                return -1;
            }
            int number = 0;
            for (int i = from; i < next; i++) {
                number = number * 10 + (bytes[i] - '0');
            }
            return number;
        }

        boolean isNamed(String name) {
            if (token != NAME || next - from != name.length()) {
                return false;
            }
            for (int i = 0; i < name.length(); i++) {
                if (bytes[from + i] != name.charAt(i)) {
                    return false;
                }
            }
            return true;
        }

        int kindNamed() {
            return isNamed("walker") ? WALKER
                : isNamed("clown") ? CLOWN
                : isNamed("child") ? CHILD
                : isNamed("jester") ? JESTER
                : isNamed("saint") ? SAINT
                : isNamed("thinker") ? THINKER
                : NOT_NAMED;
        }

        int lawNamed() {
            return isNamed("plank") ? PLANK
                : isNamed("but") ? BUT
                : isNamed("wit") ? WIT
                : isNamed("doubt") ? DOUBT
                : NOT_NAMED;
        }
    }
}
