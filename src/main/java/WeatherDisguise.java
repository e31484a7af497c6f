import java.util.Arrays;

/**
 * A city of houses four by four in which airs go about as the weather.
 * What each call answers stands in ../shared/DOC.md, as numbered promises.
 */
public final class WeatherDisguise {
    public static final int BAD = -1, FULL = -2, NONE = -3;

    private static final int NO_ROW = -9, TEXT_FAULT = -100;
    private static final int NOTHING_THERE = -11, OUTSIDE = -12, OTHER_THING = -13, SIZE_BELOW_0 = -14, PARTED_BY_0 = -15;

    private static final int TURN = 0, DAMP = 1, SHY = 2, GUST = 3, LAWS = 4;
    private static final int[] LAW_AT_FIRST = {3, 6, 2, 20};
    private static final int[] LAW_LEAST = {1, 0, 0, 0};
    private static final int[] LAW_MOST = {9, 99, 9, 99};

    private static final int HOUSES = 16, SIDE = 4, ALL_HOUSES = 65535;
    private static final int FIRST_COLUMN = 0x1111, LAST_COLUMN = 0x8888;
    private static final int COLUMN_MORE = 0, ROW_MORE = 1, COLUMN_LESS = 2, ROW_LESS = 3, WAYS = 4, STAYS = 4;
    private static final int MOST_WET = 99, MOST_FORCE = 9, FORCE_UNTOLD = 3;

    private static final int AIR = 0, RAIN = 1, FOG = 2, DRIZZLE = 3, MIST = 4, HEAT = 5, KINDS = 6;
    private static final int MOST_AIRS = 8, SETS_OF_AIRS = 256;

    private static final int MOST_STEPS = 60, MOST_DAYS = 30, MOST_ODDS = 8, MOST_HOPE = 99, HUNDRED = 100;
    private static final int MOST_ROWS = 10, ROW_PARTS = 3;
    private static final int SHEETS = 4, SORTS = 4, MISSING = -1, MOST_ITEMS = 40, ANY_HOUSE = -1;
    private static final int BYTES = 0, SHORTS = 1;
    private static final int SHELVES = 4, AS_ROW = 10;
    private static final int HOLDS_AIR = 0, HOLDS_ROW = 1, HOLDS_NOTHING = 2;
    private static final int ACTS = 4;

    private final Town now = new Town();
    private final Town kept = new Town();
    private final Town tried = new Town();
    private final Tape tape = new Tape();
    private final Sheet[] sheets = new Sheet[SHEETS];
    private final Shelf[] shelves = new Shelf[SHELVES];
    private final Acts acts = new Acts();
    private final int[] rows = new int[MOST_ROWS * ROW_PARTS];
    private final int[] path = new int[MOST_STEPS + 1];
    private final int[] otherPath = new int[MOST_STEPS + 1];
    private final int[] calm = new int[MOST_AIRS];
    private final int[] seenFrom = new int[HOUSES];
    private final int[] fewest = new int[SETS_OF_AIRS];
    private int rowCount = 0;
    private boolean isKept = false;

    public WeatherDisguise() {
        for (int i = 0; i < SHEETS; i++) {
            sheets[i] = new Sheet();
        }
        for (int i = 0; i < SHELVES; i++) {
            shelves[i] = new Shelf();
        }
    }

    public int feed(long eight, int n) {
        if (!isWithin(n, 1, 8)) {
            return BAD;
        }
        return tape.takeBytes(eight, n) ? tape.size : FULL;
    }

    public int city() {
        tried.clear();
        tried.z = now.z;
        int fault = tape.tell(tried);
        tape.size = 0;
        if (fault >= 0) {
            return TEXT_FAULT - fault;
        }
        now.become(tried);
        rowCount = 0;
        return now.airs;
    }

    public int set(int law, int v) {
        if (!isLaw(law) || !isWithin(v, LAW_LEAST[law], LAW_MOST[law])) {
            return BAD;
        }
        int was = now.laws[law];
        now.laws[law] = v;
        return was;
    }

    public int lawOf(int law) {
        return isLaw(law) ? now.laws[law] : BAD;
    }

    public int air(int kind, int force, int errand, int house) {
        if (!isKind(kind) || !isForce(force) || !isHouse(errand) || !isHouse(house)) {
            return BAD;
        }
        return now.add(kind, force, errand, house) ? now.airs - 1 : FULL;
    }

    public int of(int air, int what) {
        if (!now.has(air)) {
            return BAD;
        }
        switch (what) {
            case 0: return now.kind[air];
            case 1: return now.force[air];
            case 2: return now.errand[air];
            case 3: return now.at[air];
            case 4: return now.goes(air);
            case 5: return 1000 + now.wets(air);
            default: return BAD;
        }
    }

    public int mind(int air, int kind, int force) {
        if (!now.has(air) || !isKind(kind) || !isForce(force)) {
            return BAD;
        }
        int was = now.kind[air];
        now.kind[air] = kind;
        now.force[air] = force;
        return was;
    }

    public int bring(int air, int house) {
        if (!now.has(air) || !isHouse(house)) {
            return BAD;
        }
        int was = now.at[air];
        now.at[air] = house;
        return was;
    }

    public int send(int air, int house) {
        if (!now.has(air) || !isHouse(house)) {
            return BAD;
        }
        int was = now.errand[air];
        now.errand[air] = house;
        return was;
    }

    public int blow(int way) {
        if (!isWithin(way, 0, WAYS - 1)) {
            return BAD;
        }
        int was = now.wind;
        now.wind = way;
        return was;
    }

    public int pour(int house, int v) {
        if (!isHouse(house) || !isWithin(v, 0, MOST_WET)) {
            return BAD;
        }
        int was = now.wet[house];
        now.wet[house] = v;
        return was;
    }

    public int house(int house, int what) {
        if (!isHouse(house)) {
            return BAD;
        }
        switch (what) {
            case 0: return now.wet[house];
            case 1: return now.airsAt(house);
            default: return BAD;
        }
    }

    public int steps(int n) {
        if (!isWithin(n, 1, MOST_STEPS)) {
            return BAD;
        }
        for (int i = 0; i < n; i++) {
            now.takeStep();
        }
        return Integer.bitCount(now.airsAtErrands());
    }

    public int seed(int v) {
        int was = now.z;
        now.z = v;
        return was;
    }

    public int step() {
        now.takeStepByDraws();
        return Integer.bitCount(now.airsAtErrands());
    }

    public int blown(int n) {
        if (!isWithin(n, 1, MOST_DAYS)) {
            return BAD;
        }
        tried.become(now);
        tried.takeStep();
        System.arraycopy(tried.at, 0, calm, 0, MOST_AIRS);
        int z = now.z;
        int count = 0;
        for (int i = 0; i < n; i++) {
            tried.become(now);
            tried.z = z;
            tried.takeStepByDraws();
            z = tried.z;
            if (tried.standsOtherwise(calm)) {
                count++;
            }
        }
        return count;
    }

    public int state(int what) {
        switch (what) {
            case 0: return now.stepCount;
            case 1: return now.wind;
            case 2: return now.wetTogether();
            case 3: return now.housesWithAirs();
            case 4: return now.airsAtErrands();
            case 5: return now.housesWetBy(now.laws[DAMP]);
            default: return BAD;
        }
    }

    public int where(int air, int n) {
        if (!now.has(air) || !isWithin(n, 0, MOST_STEPS)) {
            return BAD;
        }
        tryWalk(air, n, path);
        return path[n];
    }

    public int stops(int air) {
        if (!now.has(air)) {
            return BAD;
        }
        tryWalk(air, MOST_STEPS, path);
        for (int i = 0; i <= MOST_STEPS; i++) {
            if (path[i] == now.errand[air]) {
                return i;
            }
        }
        return NONE;
    }

    public int meets(int air, int other) {
        if (!now.has(air) || !now.has(other) || air == other) {
            return BAD;
        }
        tryWalk(air, MOST_STEPS, path);
        tryWalk(other, MOST_STEPS, otherPath);
        for (int i = 0; i <= MOST_STEPS; i++) {
            if (path[i] == otherPath[i]) {
                return i;
            }
        }
        return NONE;
    }

    public int told(int air) {
        if (!now.has(air)) {
            return BAD;
        }
        tryWalk(air, MOST_STEPS, path);
        tried.become(now);
        tried.kind[air] = AIR;
        tried.walk(air, MOST_STEPS, otherPath);
        for (int i = 0; i <= MOST_STEPS; i++) {
            if (path[i] != otherPath[i]) {
                return i;
            }
        }
        return NONE;
    }

    public int off(int air, int n) {
        if (!now.has(air) || !isWithin(n, 0, MOST_STEPS)) {
            return BAD;
        }
        tried.become(now);
        return offOfTried(air, n);
    }

    public int windFor(int air, int n) {
        if (!now.has(air) || !isWithin(n, 1, MOST_DAYS)) {
            return BAD;
        }
        int best = 0;
        int least = HOUSES;
        for (int way = 0; way < WAYS; way++) {
            tried.become(now);
            tried.wind = way;
            int off = offOfTried(air, n);
            if (off < least) {
                least = off;
                best = way;
            }
        }
        return best;
    }

    public int kindFor(int air, int n) {
        if (!now.has(air) || !isWithin(n, 1, MOST_DAYS)) {
            return BAD;
        }
        int best = 0;
        int least = HOUSES;
        for (int kind = 0; kind < KINDS; kind++) {
            tried.become(now);
            tried.kind[air] = kind;
            int off = offOfTried(air, n);
            if (off < least) {
                least = off;
                best = kind;
            }
        }
        return best;
    }

    public int seen(int n) {
        if (!isWithin(n, 0, MOST_DAYS)) {
            return BAD;
        }
        Arrays.fill(seenFrom, 0);
        for (int air = 0; air < now.airs; air++) {
            tryWalk(air, n, path);
            for (int i = 0; i <= n; i++) {
                seenFrom[path[i]] |= 1 << air;
            }
        }
        return fewestThatSee((1 << now.airs) - 1);
    }

    public int dryWay(int from, int to) {
        if (!isHouse(from) || !isHouse(to)) {
            return BAD;
        }
        int dry = ALL_HOUSES & ~now.housesWetBy(now.laws[DAMP]);
        int reached = (1 << from) & dry;
        for (int i = 0; i < HOUSES; i++) {
            if (isIn(reached, to)) {
                return i;
            }
            reached = withNext(reached) & dry;
        }
        return NONE;
    }

    public int fits(int sheet, int air, int what) {
        Sheet told = sheetAt(sheet);
        if (told == null || !now.has(air) || !isWithin(what, 0, 1)) {
            return BAD;
        }
        if (told.isMissing()) {
            return NOTHING_THERE;
        }
        int fitting = 0;
        int least = NONE;
        for (int house = HOUSES - 1; house >= 0; house--) {
            if (fitsFrom(house, air, told)) {
                fitting++;
                least = house;
            }
        }
        return what == 0 ? fitting : least;
    }

    public long odds(int n, int k, int part) {
        if (!isWithin(n, 0, MOST_ODDS) || !isWithin(k, 0, n) || !isWithin(part, 0, 1)) {
            return BAD;
        }
        int gust = now.laws[GUST];
        long above = choices(n, k) * power(gust, k) * power(HUNDRED - gust, n - k);
        return partOf(above, power(HUNDRED, n), part);
    }

    public long hope(int n, int part) {
        if (!isWithin(n, 0, MOST_HOPE) || !isWithin(part, 0, 1)) {
            return BAD;
        }
        return partOf((long) n * now.laws[GUST], HUNDRED, part);
    }

    public int prove(int air, int n) {
        if (!now.has(air) || !isWithin(n, 1, MOST_ROWS)) {
            return BAD;
        }
        tried.become(now);
        for (int i = 0; i < n; i++) {
            tried.takeStep();
            for (int what = 0; what < ROW_PARTS; what++) {
                rows[i * ROW_PARTS + what] = tried.rowPart(air, what);
            }
        }
        rowCount = n;
        return n;
    }

    public int row(int i, int what) {
        return isRow(i, what) ? rows[i * ROW_PARTS + what] : NO_ROW;
    }

    public int alterRow(int i, int what, int v) {
        if (!isRow(i, what)) {
            return NO_ROW;
        }
        int was = rows[i * ROW_PARTS + what];
        rows[i * ROW_PARTS + what] = v;
        return was;
    }

    public int judge(int air) {
        if (!now.has(air)) {
            return BAD;
        }
        tried.become(now);
        for (int i = 0; i < rowCount; i++) {
            tried.takeStep();
            for (int what = 0; what < ROW_PARTS; what++) {
                if (rows[i * ROW_PARTS + what] != tried.rowPart(air, what)) {
                    return i + 1;
                }
            }
        }
        return 0;
    }

    public int minds(int sheet, int i, int air, int n) {
        Sheet told = sheetAt(sheet);
        if (told == null || !now.has(air) || !isWithin(n, 0, MOST_AIRS) || n > now.airs - air) {
            return BAD;
        }
        if (told.isMissing()) {
            return NOTHING_THERE;
        }
        if (told.sort != BYTES) {
            return OTHER_THING;
        }
        if (!isWithin(i, 0, told.size) || n > told.size - i) {
            return OUTSIDE;
        }
        for (int j = 0; j < n; j++) {
            now.force[air + j] = held(told.items[i + j], MOST_FORCE);
        }
        return n;
    }

    public int sheet(int sheet, int sort, int n) {
        Sheet changed = sheetAt(sheet);
        if (changed == null || !isWithin(sort, MISSING, SORTS - 1)) {
            return BAD;
        }
        if (sort == MISSING) {
            changed.sort = MISSING;
            return 1;
        }
        if (n > MOST_ITEMS) {
            return BAD;
        }
        if (n < 0) {
            return SIZE_BELOW_0;
        }
        changed.becomeRow(sort, n);
        return 1;
    }

    public int put(int sheet, int i, int v) {
        Sheet changed = sheetAt(sheet);
        if (changed == null) {
            return BAD;
        }
        if (changed.isMissing()) {
            return NOTHING_THERE;
        }
        if (!changed.hasItem(i)) {
            return OUTSIDE;
        }
        changed.items[i] = changed.narrowed(v);
        return 1;
    }

    public int item(int sheet, int sort, int i) {
        Sheet asked = sheetAt(sheet);
        if (asked == null || !isWithin(sort, 0, SORTS - 1)) {
            return BAD;
        }
        if (asked.isMissing()) {
            return NOTHING_THERE;
        }
        if (asked.sort != sort) {
            return OTHER_THING;
        }
        return asked.hasItem(i) ? asked.items[i] : OUTSIDE;
    }

    public int shelf(int shelf, int what, int n) {
        Shelf changed = shelfAt(shelf);
        if (changed == null) {
            return BAD;
        }
        switch (what) {
            case HOLDS_AIR:
                if (!now.has(n)) {
                    return BAD;
                }
                changed.holdAir(n);
                return 1;
            case HOLDS_ROW:
                Sheet shelved = sheetAt(n);
                if (shelved == null) {
                    return BAD;
                }
                changed.holdRow(shelved);
                return 1;
            case HOLDS_NOTHING:
                changed.holds = HOLDS_NOTHING;
                return 1;
            default:
                return BAD;
        }
    }

    public int taken(int shelf, int as) {
        Shelf asked = shelfAt(shelf);
        boolean asRow = isWithin(as, AS_ROW, AS_ROW + SORTS - 1);
        if (asked == null || !isKind(as) && !asRow) {
            return BAD;
        }
        if (asked.holds == HOLDS_ROW) {
            return as == AS_ROW + asked.sort ? asked.size : OTHER_THING;
        }
        if (!holdsAir(asked)) {
            return NOTHING_THERE;
        }
        return !asRow && isUnder(now.kind[asked.number], as) ? asked.number : OTHER_THING;
    }

    public int act(int shelf, int act, int x) {
        Shelf asked = shelfAt(shelf);
        acts.traced = 0;
        if (asked == null || !holdsAir(asked) || !isWithin(act, 0, ACTS - 1)) {
            return 0;
        }
        acts.takeThing(now.kind[asked.number], asked.number, now.force[asked.number]);
        int answer = acts.perform(act, x);
        return acts.isPartedBy0 ? PARTED_BY_0 : answer;
    }

    public int trace(int i) {
        return isWithin(i, 0, acts.traced - 1) ? acts.bodies[i] : NONE;
    }

    public int many(int what) {
        switch (what) {
            case 0: return now.airs;
            case 1: return Integer.bitCount(now.airsAtErrands());
            case 2: return Integer.bitCount(now.housesWithAirs());
            case 3: return Integer.bitCount(now.housesWetBy(1));
            case 4: return rowCount;
            case 5: return tape.size;
            case 6: return acts.traced;
            default: return BAD;
        }
    }

    public int keep() {
        kept.become(now);
        isKept = true;
        return 1;
    }

    public int again() {
        if (!isKept) {
            return NONE;
        }
        now.become(kept);
        return now.airs;
    }

    /** Where one is now and behind 1 to n STEPS, into a row; tried from how all is now. */
    private void tryWalk(int air, int n, int[] into) {
        tried.become(now);
        tried.walk(air, n, into);
    }

    /** OFF of one by n in the tried town, as it has been set up. */
    private int offOfTried(int air, int n) {
        tried.walk(air, n, path);
        return apart(path[n], now.errand[air]);
    }

    /** The fewest HOUSES from which, by seenFrom, all of a set of AIRS are seen. */
    private int fewestThatSee(int all) {
        Arrays.fill(fewest, HOUSES);
        fewest[0] = 0;
        for (int house = 0; house < HOUSES; house++) {
            for (int set = 0; set <= all; set++) {
                int more = set | seenFrom[house];
                fewest[more] = Math.min(fewest[more], fewest[set] + 1);
            }
        }
        return fewest[all];
    }

    private boolean fitsFrom(int house, int air, Sheet told) {
        tried.become(now);
        tried.at[air] = house;
        tried.walk(air, told.size, path);
        for (int i = 0; i < told.size; i++) {
            if (told.items[i] != ANY_HOUSE && told.items[i] != path[i + 1]) {
                return false;
            }
        }
        return true;
    }

    private boolean isRow(int i, int what) {
        return isWithin(i, 0, rowCount - 1) && isWithin(what, 0, ROW_PARTS - 1);
    }

    private Sheet sheetAt(int i) {
        return isWithin(i, 0, SHEETS - 1) ? sheets[i] : null;
    }

    private Shelf shelfAt(int i) {
        return isWithin(i, 0, SHELVES - 1) ? shelves[i] : null;
    }

    private boolean holdsAir(Shelf asked) {
        return asked.holds == HOLDS_AIR && now.has(asked.number);
    }

    private static boolean isWithin(int v, int least, int most) {
        return v >= least && v <= most;
    }

    private static boolean isLaw(int law) {
        return isWithin(law, 0, LAWS - 1);
    }

    private static boolean isKind(int kind) {
        return isWithin(kind, 0, KINDS - 1);
    }

    private static boolean isForce(int force) {
        return isWithin(force, 0, MOST_FORCE);
    }

    private static boolean isHouse(int house) {
        return isWithin(house, 0, HOUSES - 1);
    }

    private static boolean isIn(int set, int i) {
        return (set >>> i & 1) == 1;
    }

    /** A number held to 0 to most. */
    private static int held(int v, int most) {
        return Math.max(0, Math.min(most, v));
    }

    /** Whether a KIND is another one or one under it. */
    private static boolean isUnder(int kind, int above) {
        switch (above) {
            case AIR: return true;
            case RAIN: return kind == RAIN || kind == DRIZZLE;
            case FOG: return kind == FOG || kind == MIST;
            default: return kind == above;
        }
    }

    private static int columnOf(int house) {
        return house % SIDE;
    }

    private static int rowOf(int house) {
        return house / SIDE;
    }

    /** How many columns and rows two HOUSES are apart, together. */
    private static int apart(int one, int other) {
        return Math.abs(columnOf(one) - columnOf(other)) + Math.abs(rowOf(one) - rowOf(other));
    }

    /** The HOUSE to which a way leads; the same, if it would lead out of the city (or is none). */
    private static int nextHouse(int house, int way) {
        switch (way) {
            case COLUMN_MORE: return columnOf(house) < SIDE - 1 ? house + 1 : house;
            case ROW_MORE: return rowOf(house) < SIDE - 1 ? house + SIDE : house;
            case COLUMN_LESS: return columnOf(house) > 0 ? house - 1 : house;
            case ROW_LESS: return rowOf(house) > 0 ? house - SIDE : house;
            default: return house;
        }
    }

    /** The way from a HOUSE towards another, by columns first. */
    private static int wayTowards(int from, int to) {
        if (columnOf(from) != columnOf(to)) {
            return columnOf(from) < columnOf(to) ? COLUMN_MORE : COLUMN_LESS;
        }
        if (rowOf(from) != rowOf(to)) {
            return rowOf(from) < rowOf(to) ? ROW_MORE : ROW_LESS;
        }
        return STAYS;
    }

    /** A set of HOUSES with all those next to one of them. */
    private static int withNext(int houses) {
        int columnMore = (houses & ~LAST_COLUMN) << 1;
        int columnLess = (houses & ~FIRST_COLUMN) >>> 1;
        return (houses | columnMore | columnLess | (houses << SIDE) | (houses >>> SIDE)) & ALL_HOUSES;
    }

    /** How many ways there are to take k of n (n at most 8). */
    private static long choices(int n, int k) {
        long ways = 1;
        for (int i = 1; i <= k; i++) {
            ways = ways * (n - k + i) / i;
        }
        return ways;
    }

    private static long power(long base, int n) {
        long product = 1;
        for (int i = 0; i < n; i++) {
            product *= base;
        }
        return product;
    }

    /** A part of a fraction (above 0 or more, below above 0) without a common divisor. */
    private static long partOf(long above, long below, int part) {
        long divisor = Math.max(1, commonDivisor(above, below));
        return (part == 0 ? above : below) / divisor;
    }

    private static long commonDivisor(long one, long other) {
        long a = one;
        long b = other;
        for (int i = 0; i < 1000 && b != 0; i++) {
            long rest = a % b;
            a = b;
            b = rest;
        }
        return a;
    }

    /** All that is kept: LAWS, STEP, WIND, z, how WET the HOUSES are, and AIRS. */
    private static final class Town {
        final int[] laws = new int[LAWS];
        final int[] wet = new int[HOUSES];
        final int[] kind = new int[MOST_AIRS];
        final int[] force = new int[MOST_AIRS];
        final int[] errand = new int[MOST_AIRS];
        final int[] at = new int[MOST_AIRS];
        int airs;
        int stepCount;
        int wind;
        int z = 1;

        Town() {
            System.arraycopy(LAW_AT_FIRST, 0, laws, 0, LAWS);
        }

        /** As at first, but for z. */
        void clear() {
            System.arraycopy(LAW_AT_FIRST, 0, laws, 0, LAWS);
            Arrays.fill(wet, 0);
            airs = 0;
            stepCount = 0;
            wind = 0;
        }

        void become(Town other) {
            System.arraycopy(other.laws, 0, laws, 0, LAWS);
            System.arraycopy(other.wet, 0, wet, 0, HOUSES);
            System.arraycopy(other.kind, 0, kind, 0, MOST_AIRS);
            System.arraycopy(other.force, 0, force, 0, MOST_AIRS);
            System.arraycopy(other.errand, 0, errand, 0, MOST_AIRS);
            System.arraycopy(other.at, 0, at, 0, MOST_AIRS);
            airs = other.airs;
            stepCount = other.stepCount;
            wind = other.wind;
            z = other.z;
        }

        boolean has(int air) {
            return isWithin(air, 0, airs - 1);
        }

        /** One more, if there is room. */
        boolean add(int ofKind, int withForce, int onErrand, int atHouse) {
            if (airs >= MOST_AIRS) {
                return false;
            }
            kind[airs] = ofKind;
            force[airs] = withForce;
            errand[airs] = onErrand;
            at[airs] = atHouse;
            airs++;
            return true;
        }

        /** The way by which one goes, or that it stays. */
        int goes(int air) {
            int way = wayWanted(air);
            return nextHouse(at[air], way) == at[air] ? STAYS : way;
        }

        /** The way by which one would go, if no way led out of the city. */
        private int wayWanted(int air) {
            switch (kind[air]) {
                case RAIN: return force[air] < laws[SHY] ? STAYS : wind;
                case FOG: return wayOfFog();
                case DRIZZLE: return wayTowards(at[air], errand[air]);
                case MIST: return stepCount % 4 == 0 ? wayOfFog() : wayTowards(at[air], errand[air]);
                case HEAT: return STAYS;
                default: return wind;
            }
        }

        private int wayOfFog() {
            return stepCount % 2 == 0 ? wind : STAYS;
        }

        int wets(int air) {
            switch (kind[air]) {
                case RAIN: return 1 + force[air];
                case FOG: return 1;
                case DRIZZLE: return at[air] == errand[air] ? 2 * (1 + force[air]) : 1 + force[air];
                case MIST: return 1 + force[air] / 3;
                case HEAT: return -force[air];
                default: return 0;
            }
        }

        void takeStep() {
            turnWind();
            for (int air = 0; air < airs; air++) {
                at[air] = nextHouse(at[air], goes(air));
            }
            for (int air = 0; air < airs; air++) {
                wet[at[air]] = held(wet[at[air]] + wets(air), MOST_WET);
            }
            stepCount++;
        }

        void takeStepByDraws() {
            if (draw() % HUNDRED < laws[GUST]) {
                wind = draw() % WAYS;
            }
            takeStep();
        }

        private void turnWind() {
            if (stepCount > 0 && laws[TURN] > 0 && stepCount % laws[TURN] == 0) {
                wind = (wind + 1) % WAYS;
            }
        }

        private int draw() {
            z = z * 1103515245 + 12345;
            return z >>> 16;
        }

        /**
         * Where one is now and behind 1 to n STEPS, into a row.
         * The others stand still, as where one goes hangs on none of them.
         */
        void walk(int air, int n, int[] into) {
            into[0] = at[air];
            for (int i = 1; i <= n && i < into.length; i++) {
                turnWind();
                at[air] = nextHouse(at[air], goes(air));
                stepCount++;
                into[i] = at[air];
            }
        }

        /** Of a ROW of one: 0 its HOUSE, 1 how WET that is, 2 OFF. */
        int rowPart(int air, int what) {
            switch (what) {
                case 0: return at[air];
                case 1: return wet[at[air]];
                default: return apart(at[air], errand[air]);
            }
        }

        boolean standsOtherwise(int[] places) {
            for (int air = 0; air < airs && air < places.length; air++) {
                if (at[air] != places[air]) {
                    return true;
                }
            }
            return false;
        }

        int airsAt(int house) {
            int set = 0;
            for (int air = 0; air < airs; air++) {
                set |= at[air] == house ? 1 << air : 0;
            }
            return set;
        }

        int airsAtErrands() {
            int set = 0;
            for (int air = 0; air < airs; air++) {
                set |= at[air] == errand[air] ? 1 << air : 0;
            }
            return set;
        }

        int housesWithAirs() {
            int set = 0;
            for (int air = 0; air < airs; air++) {
                set |= 1 << at[air];
            }
            return set;
        }

        int housesWetBy(int least) {
            int set = 0;
            for (int house = 0; house < HOUSES; house++) {
                set |= wet[house] >= least ? 1 << house : 0;
            }
            return set;
        }

        int wetTogether() {
            int sum = 0;
            for (int house = 0; house < HOUSES; house++) {
                sum += wet[house];
            }
            return sum;
        }
    }

    /** THE TAPE, and the reading of its TEXT. */
    private static final class Tape {
        private static final int MOST_BYTES = 200, MOST_DIGITS = 3, BLANK = 32;

        final int[] bytes = new int[MOST_BYTES];
        int size;
        private int place;
        private int fault;

        /** n bytes more, the lowest first, if there is room. */
        boolean takeBytes(long eight, int n) {
            if (n > MOST_BYTES - size) {
                return false;
            }
            for (int i = 0; i < n; i++) {
                bytes[size + i] = (int) (eight >>> 8 * i) & 255;
            }
            size += n;
            return true;
        }

        /** Tells a town, that is as at first, all of the TEXT: the FAULT; below 0, if there is none. */
        int tell(Town town) {
            place = 0;
            fault = -1;
            skipBlanks();
            // each round takes a byte or finds a FAULT, so there are never more rounds than bytes
            for (int i = 0; i < MOST_BYTES && place < size && fault < 0; i++) {
                tellOne(town);
                skipBlanks();
            }
            return fault;
        }

        private void tellOne(Town town) {
            int kind = kindHere();
            if (kind >= 0) {
                tellAir(town, kind);
            } else if (takesName("wet")) {
                tellWet(town);
            } else if (takesName("wind")) {
                town.wind = number(0, WAYS - 1);
            } else if (takesName("turn")) {
                tellLaw(town, TURN);
            } else if (takesName("damp")) {
                tellLaw(town, DAMP);
            } else if (takesName("shy")) {
                tellLaw(town, SHY);
            } else if (takesName("gust")) {
                tellLaw(town, GUST);
            } else {
                findFault();
            }
            takeMark();
        }

        /** The KIND whose NAME stands here, and is left there; below 0, if none does. */
        private int kindHere() {
            if (isNameHere("air")) {
                return AIR;
            }
            if (isNameHere("rain")) {
                return RAIN;
            }
            if (isNameHere("fog")) {
                return FOG;
            }
            if (isNameHere("drizzle")) {
                return DRIZZLE;
            }
            if (isNameHere("mist")) {
                return MIST;
            }
            return isNameHere("heat") ? HEAT : -1;
        }

        private void tellAir(Town town, int kind) {
            if (town.airs >= MOST_AIRS) {
                findFault();
                return;
            }
            place = endOfName();
            takeName("at");
            int house = number(0, HOUSES - 1);
            int force = takesName("force") ? number(0, MOST_FORCE) : FORCE_UNTOLD;
            int errand = takesName("errand") ? number(0, HOUSES - 1) : 0;
            town.add(kind, force, errand, house);
        }

        private void tellWet(Town town) {
            int house = number(0, HOUSES - 1);
            takeName("is");
            town.wet[house] = number(0, MOST_WET);
        }

        private void tellLaw(Town town, int law) {
            town.laws[law] = number(LAW_LEAST[law], LAW_MOST[law]);
        }

        /** A NUMBER that must stand here, in a range; behind a FAULT the least of the range. */
        private int number(int least, int most) {
            skipBlanks();
            int end = endOfNumber();
            int value = 0;
            for (int i = place; i < end && i < place + MOST_DIGITS; i++) {
                value = value * 10 + bytes[i] - '0';
            }
            if (end == place || end > place + MOST_DIGITS || !isWithin(value, least, most)) {
                findFault();
                return least;
            }
            place = end;
            return value;
        }

        /** A NAME that must stand here. */
        private void takeName(String name) {
            skipBlanks();
            if (isNameHere(name)) {
                place = endOfName();
            } else {
                findFault();
            }
        }

        /** A NAME that may stand here: whether it does. */
        private boolean takesName(String name) {
            skipBlanks();
            if (!isNameHere(name)) {
                return false;
            }
            place = endOfName();
            return true;
        }

        private void takeMark() {
            skipBlanks();
            if (place < size && bytes[place] == ';') {
                place++;
            } else {
                findFault();
            }
        }

        private boolean isNameHere(String name) {
            if (endOfName() - place != name.length()) {
                return false;
            }
            for (int i = 0; i < name.length(); i++) {
                if (bytes[place + i] != name.charAt(i)) {
                    return false;
                }
            }
            return true;
        }

        private int endOfName() {
            int end = place;
            while (end < size && bytes[end] >= 'a' && bytes[end] <= 'z') {
                end++;
            }
            return end;
        }

        private int endOfNumber() {
            int end = place;
            while (end < size && bytes[end] >= '0' && bytes[end] <= '9') {
                end++;
            }
            return end;
        }

        private void skipBlanks() {
            while (place < size && bytes[place] == BLANK) {
                place++;
            }
        }

        /** The FAULT is here, if there was none before. */
        private void findFault() {
            if (fault < 0) {
                fault = place;
            }
        }
    }

    /** A SHEET: a row of a sort, or missing. Ints hold the items of any sort, as no long that is put is wider. */
    private static final class Sheet {
        final int[] items = new int[MOST_ITEMS];
        int sort = MISSING;
        int size;

        boolean isMissing() {
            return sort == MISSING;
        }

        boolean hasItem(int i) {
            return isWithin(i, 0, size - 1);
        }

        void becomeRow(int ofSort, int n) {
            Arrays.fill(items, 0);
            sort = ofSort;
            size = n;
        }

        int narrowed(int v) {
            switch (sort) {
                case BYTES: return (byte) v;
                case SHORTS: return (short) v;
                default: return v;
            }
        }
    }

    /**
     * A SHELF: one of AIRS by its number, a row, or nothing. Of a row its sort and size are all that is ever asked;
     * they are held apart, as the row stays on the SHELF when its SHEET becomes another row.
     */
    private static final class Shelf {
        int holds = HOLDS_NOTHING;
        int number;
        int sort;
        int size;

        void holdAir(int air) {
            holds = HOLDS_AIR;
            number = air;
        }

        void holdRow(Sheet sheet) {
            holds = sheet.isMissing() ? HOLDS_NOTHING : HOLDS_ROW;
            sort = sheet.sort;
            size = sheet.size;
        }
    }

    /** ACTS of a thing by the BODIES of its KIND, and THE TRACE of these. */
    private static final class Acts {
        private static final int DRIFTS = 0, DRIPS = 1, PARTS = 2;
        private static final int MOST_TRACED = 30, DEEPEST = 40;
        // by KIND, four each: the BODY that a thing of the KIND has for drifts, drips, parts, halts
        private static final int[] BODY_OF = {
            10, 11, 12, 13,
            10, 20, 12, 13,
            30, 11, 12, 31,
            51, 20, 50, 13,
            40, 41, 12, 31,
            10, 11, 61, 60};

        final int[] bodies = new int[MOST_TRACED];
        int traced;
        boolean isPartedBy0;
        private int kind;
        private int number;
        private int force;

        void takeThing(int ofKind, int numbered, int withForce) {
            kind = ofKind;
            number = numbered;
            force = withForce;
        }

        int perform(int act, int x) {
            isPartedBy0 = false;
            return run(this, bodyOf(act), x, 0);
        }

        private int bodyOf(int act) {
            int i = kind * ACTS + act;
            return isWithin(i, 0, BODY_OF.length - 1) ? BODY_OF[i] : 0;
        }

        private static int run(Acts of, int body, int x, int depth) {
            // once parted by 0 no body begins any more: act() answers that alone
            if (of.isPartedBy0 || depth > DEEPEST) {
                return 0;
            }
            of.note(body);
            int next = depth + 1;
            switch (body) {
                case 10: return x * 9 + of.number;
                case 11: return run(of, of.bodyOf(DRIFTS), x, next) - of.force * 3;
                case 12: return of.partedBy(x, of.force - of.number);
                case 13: return run(of, of.bodyOf(DRIPS), x, next) ^ 130;
                case 20: return run(of, 11, x, next) + 2;
                case 30: return 0 - run(of, 10, x, next);
                case 31: return run(of, 13, x, next) - run(of, of.bodyOf(PARTS), of.number, next);
                case 40: return run(of, 30, x, next) + 6;
                case 41: return run(of, 11, x, next) ^ run(of, of.bodyOf(DRIFTS), of.force, next);
                case 50: return run(of, 12, x - of.force, next) * 2;
                case 51: return run(of, 10, x, next) + of.number;
                case 60: return run(of, 13, x, next) * 3;
                case 61: return run(of, 12, x, next) + run(of, of.bodyOf(DRIFTS), of.number, next);
                default: return 0;
            }
        }

        private int partedBy(int x, int divisor) {
            if (divisor == 0) {
                isPartedBy0 = true;
                return 0;
            }
            return x / divisor;
        }

        private void note(int body) {
            if (traced < MOST_TRACED) {
                bodies[traced] = body;
                traced++;
            }
        }
    }
}
