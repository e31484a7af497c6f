/** Sentences that name a boundary of SHELVES, ACTS and THE TRACE: Terms, promises 39 to 42. */
public final class EdgesOfShelvesTest {
    private static final int TERMS = Sentences.TERMS;
    private static final int AIR = 0, RAIN = 1, FOG = 2, DRIZZLE = 3, MIST = 4, HEAT = 5;
    private static final int LEAST_INT = Integer.MIN_VALUE, MOST_INT = Integer.MAX_VALUE;
    private static final int[] NUMBERS = {0, 1, -1, 2, 10, -10, 238609294, 238609295, -238609295, MOST_INT - 1, MOST_INT,
        LEAST_INT, LEAST_INT + 1};
    private static Sentences s;

    public static void main(String[] args) {
        all(new Sentences("EdgesOfShelvesTest"));
        s.end();
    }

    static void all(Sentences sentences) {
        s = sentences;
        shelves();
        bodies();
        traces();
    }

    private static void shelves() {
        s.says(TERMS, "SHELVES 0 to 3 hold", EdgesOfShelvesTest::fourShelves);
        s.says(TERMS, "one of the AIRS (by its number; nothing, if there is no such one at the time),",
            EdgesOfShelvesTest::byItsNumber);
        s.says(TERMS, "a SHEET's row,", EdgesOfShelvesTest::aSheetsRow);
        s.says(TERMS, "or nothing (at first).", EdgesOfShelvesTest::nothingAtFirst);
        s.says(39, "A SHELF holds one of the AIRS (what 0, its number n),", EdgesOfShelvesTest::holdsAnAir);
        s.says(39, "the row of SHEET n (1; nothing, if missing),", EdgesOfShelvesTest::holdsARow);
        s.says(39, "nothing (2): 1.", EdgesOfShelvesTest::holdsNothing);
        s.says(39, "BAD: no such SHELF, what, thing.", EdgesOfShelvesTest::shelfBad);
        s.says(40, "What a SHELF holds taken for a thing of KIND as (0 to 5, or one under it): its number;",
            EdgesOfShelvesTest::takenForAKind);
        s.says(40, "for a row of sort as - 10 (as 10 to 13): how many items.", EdgesOfShelvesTest::takenForARow);
        s.says(40, "BAD: no such SHELF, as;", EdgesOfShelvesTest::takenBad);
        s.says(40, "-11;", EdgesOfShelvesTest::takenNothing);
        s.says(40, "-13.", EdgesOfShelvesTest::takenForAnother);
    }

    private static void bodies() {
        s.says(TERMS, "ACTS of things, with a number x (ints that wrap): 0 drifts, 1 drips, 2 parts, 3 halts.",
            EdgesOfShelvesTest::intsThatWrap);
        s.says(TERMS, "One of the AIRS is held as a thing of the KIND; n: the number, a: FORCE.",
            EdgesOfShelvesTest::aThingOfTheKind);
        s.says(TERMS, "BODIES, each with its number: air: 10 drifts: x * 9 + n. 11 drips: drifts(x) - a * 3.",
            () -> actsOf(AIR, 0, 1));
        s.says(TERMS, "12 parts: x by (a - n), cut", EdgesOfShelvesTest::partsOfAir);
        s.says(TERMS, "(-15 if these are the same; that is all that act() answers then).",
            EdgesOfShelvesTest::partedByNothing);
        s.says(TERMS, "13 halts: drips(x) ^ 130.", () -> actsOf(AIR, 3));
        s.says(TERMS, "rain: 20 drips: super.drips(x) + 2.", () -> actsOf(RAIN, 0, 1, 2, 3));
        s.says(TERMS, "fog: 30 drifts: 0 - super.drifts(x).", () -> actsOf(FOG, 0, 1, 2));
        s.says(TERMS, "31 halts: super.halts(x) - parts(n).", () -> actsOf(FOG, 3));
        s.says(TERMS, "mist: 40 drifts: super.drifts(x) + 6.", () -> actsOf(MIST, 0, 2));
        s.says(TERMS, "41 drips: super.drips(x) ^ drifts(a).", () -> actsOf(MIST, 1, 3));
        s.says(TERMS, "drizzle: 50 parts: super.parts(x - a) * 2.", () -> actsOf(DRIZZLE, 2));
        s.says(TERMS, "51 drifts: super.drifts(x) + n.", () -> actsOf(DRIZZLE, 0, 1, 3));
        s.says(TERMS, "heat: 60 halts: super.halts(x) * 3.", () -> actsOf(HEAT, 0, 1, 3));
        s.says(TERMS, "61 parts: super.parts(x) + drifts(n).", () -> actsOf(HEAT, 2));
        s.says(TERMS, "Quotients are cut towards 0.", EdgesOfShelvesTest::cutTowards0);
    }

    private static void traces() {
        s.says(TERMS, "THE TRACE: numbers of the bodies that ran in the latest act(), as they began (left first);",
            EdgesOfShelvesTest::asTheyBegan);
        s.says(TERMS, "the first 30 are kept.", EdgesOfShelvesTest::theMostThatRun);
        s.says(41, "An ACT (0 to 3) of the thing on a SHELF, with x.", EdgesOfShelvesTest::act);
        s.says(41, "0, and no TRACE then: no such SHELF, act, nothing, a row.", EdgesOfShelvesTest::noAct);
        s.says(42, "THE TRACE's i-th body.", EdgesOfShelvesTest::trace);
        s.says(42, "NONE.", EdgesOfShelvesTest::traceNone);
    }

    private static void fourShelves() {
        WeatherDisguise x = Worlds.eight();
        for (int shelf = 0; shelf < 4; shelf++) {
            s.due("shelf(" + shelf + ", 0, n)", x.shelf(shelf, 0, 7 - shelf), 1);
        }
        for (int shelf = 0; shelf < 4; shelf++) {
            s.due("taken(" + shelf + ", 0)", x.taken(shelf, 0), 7 - shelf);
        }
        s.within("shelf(shelf, 2, 0)", Worlds::two, 0, 3, (y, v) -> y.shelf(v, 2, 0));
        s.bad("taken(shelf, 0)", Worlds::two, (y, v) -> y.taken(v, 0), -1, 4);
    }

    private static void byItsNumber() {
        WeatherDisguise x = new WeatherDisguise();
        x.keep();
        for (int i = 0; i < 8; i++) {
            x.air(HEAT, 1, 0, 0);
        }
        x.shelf(0, 0, 7);
        x.again();
        for (int i = 0; i < 7; i++) {
            x.air(FOG, 2, 0, 0);
            s.due("taken(0, 0), there are " + (i + 1), x.taken(0, 0), -11);
        }
        s.due("act(0, 0, 1), there is no such one", x.act(0, 0, 1), 0);
        x.air(RAIN, 3, 0, 0);
        s.due("taken(0, 1), there is one again", x.taken(0, 1), 7);
        s.due("act(0, 0, 1), there is one again", x.act(0, 0, 1), 16);
        x.mind(7, HEAT, 3);
        s.due("taken(0, 1), it is of another KIND now", x.taken(0, 1), -13);
        s.due("taken(0, 5)", x.taken(0, 5), 7);
        s.due("city() without AIRS", x.city(), 0);
        s.due("taken(0, 0), there is none", x.taken(0, 0), -11);
    }

    private static void aSheetsRow() {
        WeatherDisguise x = new WeatherDisguise();
        x.sheet(3, 2, 40);
        x.shelf(0, 1, 3);
        s.due("taken(0, 12)", x.taken(0, 12), 40);
        x.put(3, 0, 5);
        s.due("taken(0, 12), an item being another", x.taken(0, 12), 40);
        x.city();
        s.due("taken(0, 12) behind city()", x.taken(0, 12), 40);
    }

    private static void nothingAtFirst() {
        for (int shelf = 0; shelf < 4; shelf++) {
            WeatherDisguise x = new WeatherDisguise();
            x.air(AIR, 1, 0, 0);
            x.sheet(0, 0, 4);
            for (int as = 0; as < 6; as++) {
                s.due("taken(" + shelf + ", " + as + ")", x.taken(shelf, as), -11);
            }
            for (int as = 10; as < 14; as++) {
                s.due("taken(" + shelf + ", " + as + ")", x.taken(shelf, as), -11);
            }
            s.due("act(" + shelf + ", 0, 1)", x.act(shelf, 0, 1), 0);
        }
    }

    private static void holdsAnAir() {
        WeatherDisguise x = Worlds.eight();
        for (int n = 0; n < 8; n++) {
            s.due("shelf(3, 0, " + n + ")", x.shelf(3, 0, n), 1);
            s.due("taken(3, 0)", x.taken(3, 0), n);
        }
        s.within("shelf(3, 0, n)", Worlds::eight, 0, 7, (y, v) -> y.shelf(3, 0, v));
        s.within("shelf(3, 0, n)", Worlds::two, 0, 1, (y, v) -> y.shelf(3, 0, v));
    }

    private static void holdsARow() {
        for (int sheet = 0; sheet < 4; sheet++) {
            for (int n : new int[] {0, 1, 40}) {
                WeatherDisguise x = new WeatherDisguise();
                s.due("shelf(0, 1, " + sheet + "), missing", x.shelf(0, 1, sheet), 1);
                s.due("taken(0, 10)", x.taken(0, 10), -11);
                x.sheet(sheet, 0, n);
                s.due("taken(0, 10), it held nothing", x.taken(0, 10), -11);
                s.due("shelf(0, 1, " + sheet + ")", x.shelf(0, 1, sheet), 1);
                s.due("taken(0, 10)", x.taken(0, 10), n);
            }
        }
        s.within("shelf(0, 1, n)", Worlds::two, 0, 3, (y, v) -> y.shelf(0, 1, v));
        WeatherDisguise x = Worlds.two();
        s.due("shelf(0, 1, 3), missing, where one of the AIRS was", x.shelf(0, 1, 3), 1);
        s.due("taken(0, 0)", x.taken(0, 0), -11);
    }

    private static void holdsNothing() {
        for (int n : new int[] {LEAST_INT, -1, 0, 8, MOST_INT}) {
            WeatherDisguise x = Worlds.two();
            for (int shelf = 0; shelf < 4; shelf++) {
                s.due("shelf(" + shelf + ", 2, " + n + ")", x.shelf(shelf, 2, n), 1);
                s.due("taken(" + shelf + ", 0)", x.taken(shelf, 0), -11);
                s.due("taken(" + shelf + ", 11)", x.taken(shelf, 11), -11);
            }
        }
    }

    private static void shelfBad() {
        for (int what = 0; what < 3; what++) {
            int one = what;
            s.within("shelf(shelf, " + what + ", 0)", Worlds::two, 0, 3, (x, v) -> x.shelf(v, one, 0));
        }
        s.within("shelf(0, what, 0)", Worlds::two, 0, 2, (x, v) -> x.shelf(0, v, 0));
        s.within("shelf(1, 0, n)", Worlds::two, 0, 1, (x, v) -> x.shelf(1, 0, v));
        s.within("shelf(1, 0, n)", Worlds::eight, 0, 7, (x, v) -> x.shelf(1, 0, v));
        s.within("shelf(1, 1, n)", Worlds::two, 0, 3, (x, v) -> x.shelf(1, 1, v));
        s.bad("shelf(0, 0, n) without AIRS", Worlds::fresh, (x, v) -> x.shelf(0, 0, v), 0);
    }

    private static void takenForAKind() {
        String[] under = {"0", "01", "02", "013", "024", "05"};
        for (int kind = 0; kind < 6; kind++) {
            WeatherDisguise x = thing(kind, 7, 1);
            for (int as = 0; as < 6; as++) {
                s.due("taken(0, " + as + ") of KIND " + kind, x.taken(0, as), under[kind].indexOf('0' + as) >= 0 ? 7 : -13);
            }
            s.due("number 0", thing(kind, 0, 1).taken(0, kind), 0);
        }
    }

    private static void takenForARow() {
        for (int sort = 0; sort < 4; sort++) {
            for (int n : new int[] {0, 1, 39, 40}) {
                WeatherDisguise x = new WeatherDisguise();
                x.sheet(0, sort, n);
                x.shelf(3, 1, 0);
                for (int as = 10; as < 14; as++) {
                    s.due("taken(3, " + as + ") of sort " + sort, x.taken(3, as), as == 10 + sort ? n : -13);
                }
            }
        }
    }

    private static void takenBad() {
        for (int shelf : new int[] {0, 1, 3}) {
            s.bad("taken(" + shelf + ", as)", Worlds::two, (x, v) -> x.taken(shelf, v), -1, 6, 7, 8, 9, 14, 15, LEAST_INT,
                MOST_INT);
        }
        for (int as : new int[] {0, 5, 10, 13}) {
            s.bad("taken(shelf, " + as + ")", Worlds::two, (x, v) -> x.taken(v, as), -1, 4, LEAST_INT, MOST_INT);
        }
        s.due("taken(3, 5), nothing", Worlds.two().taken(3, 5), -11);
        s.due("taken(3, 10), nothing", Worlds.two().taken(3, 10), -11);
    }

    private static void takenNothing() {
        for (int as : new int[] {0, 1, 2, 3, 4, 5, 10, 11, 12, 13}) {
            s.refused("taken(3, " + as + ")", -11, Worlds::two, x -> x.taken(3, as));
            s.refused("taken(0, " + as + ") at first", -11, Worlds::fresh, x -> x.taken(0, as));
        }
    }

    /** On SHELF 0 is rain, on SHELF 1 a row of shorts. */
    private static void takenForAnother() {
        for (int as : new int[] {2, 3, 4, 5, 10, 11, 12, 13}) {
            s.refused("taken(0, " + as + ") of rain", -13, Worlds::two, x -> x.taken(0, as));
        }
        for (int as : new int[] {0, 1, 2, 3, 4, 5, 10, 12, 13}) {
            s.refused("taken(1, " + as + ") of shorts", -13, Worlds::two, x -> x.taken(1, as));
        }
        s.due("taken(0, 1)", Worlds.two().taken(0, 1), 1);
        s.due("taken(0, 0)", Worlds.two().taken(0, 0), 1);
        s.due("taken(1, 11)", Worlds.two().taken(1, 11), 40);
    }

    /** One of a KIND as number n with FORCE a, on SHELF 0. */
    private static WeatherDisguise thing(int kind, int n, int a) {
        WeatherDisguise x = new WeatherDisguise();
        for (int i = 0; i < n; i++) {
            x.air(AIR, 0, 0, 0);
        }
        x.air(kind, a, 0, 0);
        x.shelf(0, 0, n);
        return x;
    }

    private static int drifts(int kind, int n, int x) {
        switch (kind) {
            case FOG: return -(x * 9 + n);
            case MIST: return -(x * 9 + n) + 6;
            case DRIZZLE: return x * 9 + n + n;
            default: return x * 9 + n;
        }
    }

    private static int drips(int kind, int n, int a, int x) {
        int drips = drifts(kind, n, x) - 3 * a;
        switch (kind) {
            case RAIN: case DRIZZLE: return drips + 2;
            case MIST: return drips ^ drifts(MIST, n, a);
            default: return drips;
        }
    }

    /** Only where a isn't n. */
    private static int parts(int kind, int n, int a, int x) {
        switch (kind) {
            case DRIZZLE: return (x - a) / (a - n) * 2;
            case HEAT: return x / (a - n) + drifts(HEAT, n, n);
            default: return x / (a - n);
        }
    }

    private static int halts(int kind, int n, int a, int x) {
        int halts = drips(kind, n, a, x) ^ 130;
        switch (kind) {
            case FOG: case MIST: return halts - n / (a - n);
            case HEAT: return halts * 3;
            default: return halts;
        }
    }

    private static boolean parts(int kind, int act) {
        return act == 2 || act == 3 && (kind == FOG || kind == MIST);
    }

    private static int answer(int kind, int n, int a, int act, int x) {
        if (a == n && parts(kind, act)) {
            return -15;
        }
        int[] drifts = {drifts(kind, n, x), drips(kind, n, a, x)};
        return act < 2 ? drifts[act] : act == 2 ? parts(kind, n, a, x) : halts(kind, n, a, x);
    }

    private static void actsOf(int kind, int... acts) {
        for (int n : new int[] {0, 1, 6, 7}) {
            for (int a : new int[] {0, 1, 5, 6, 7, 8, 9}) {
                WeatherDisguise thing = thing(kind, n, a);
                for (int act : acts) {
                    for (int x : NUMBERS) {
                        s.due("act(0, " + act + ", " + x + ") of KIND " + kind + " with n " + n + ", a " + a,
                            thing.act(0, act, x), answer(kind, n, a, act, x));
                    }
                }
            }
        }
    }

    private static void intsThatWrap() {
        WeatherDisguise air = thing(AIR, 7, 0);
        s.due("drifts(238609293), the most that doesn't wrap", air.act(0, 0, 238609293), 2147483644);
        s.due("drifts(238609294) wraps", air.act(0, 0, 238609294), LEAST_INT + 5);
        s.due("drifts(most int)", air.act(0, 0, MOST_INT), MOST_INT - 1);
        s.due("drifts(least int)", air.act(0, 0, LEAST_INT), LEAST_INT + 7);
        s.due("parts(least int) by -7", air.act(0, 2, LEAST_INT), 306783378);
        s.due("parts(least int) by -1 wraps", thing(AIR, 1, 0).act(0, 2, LEAST_INT), LEAST_INT);
        s.due("parts(most int) by -1", thing(AIR, 1, 0).act(0, 2, MOST_INT), -MOST_INT);
        s.due("0 less the least int wraps", thing(FOG, 0, 0).act(0, 0, LEAST_INT), LEAST_INT);
        s.due("drizzle's parts(least int): x - a wraps", thing(DRIZZLE, 0, 1).act(0, 2, LEAST_INT), -2);
        s.due("drizzle's parts(most int): twice that wraps", thing(DRIZZLE, 0, 1).act(0, 2, MOST_INT), -4);
        s.due("heat's halts(least int): thrice that wraps", thing(HEAT, 0, 0).act(0, 3, LEAST_INT), LEAST_INT + 390);
    }

    private static void aThingOfTheKind() {
        WeatherDisguise x = thing(AIR, 7, 0);
        s.due("drifts(1) of air", x.act(0, 0, 1), 16);
        x.mind(7, DRIZZLE, 9);
        s.due("drifts(1) of drizzle", x.act(0, 0, 1), 23);
        s.due("drips(1) of drizzle with FORCE 9", x.act(0, 1, 1), -2);
        x.sheet(0, 0, 1);
        x.minds(0, 0, 7, 1);
        s.due("drips(1) of drizzle with FORCE 0", x.act(0, 1, 1), 25);
        x.shelf(0, 0, 0);
        s.due("drifts(1) of air, numbered 0", x.act(0, 0, 1), 9);
    }

    private static void partsOfAir() {
        for (int a = 0; a <= 9; a++) {
            for (int n = 0; n <= 7; n++) {
                s.due("act(0, 2, 29), a " + a + ", n " + n, thing(AIR, n, a).act(0, 2, 29), a == n ? -15 : 29 / (a - n));
            }
        }
        actsOf(AIR, 2);
    }

    /** What a refused act() leaves is all as it was, but for THE TRACE, that is of the latest act(). */
    private static void partedByNothing() {
        for (int kind = 0; kind < 6; kind++) {
            for (int n = 0; n <= 7; n++) {
                for (int act = 0; act < 4; act++) {
                    WeatherDisguise x = thing(kind, n, n);
                    String call = "act(0, " + act + ", 40) of KIND " + kind + ", a and n " + n;
                    s.due(call, x.act(0, act, 40), answer(kind, n, n, act, 40));
                    s.same(call + " changes nothing", Whole.keptAndTape(x), Whole.keptAndTape(thing(kind, n, n)));
                }
            }
        }
    }

    private static void cutTowards0() {
        s.due("7 by 2", thing(AIR, 0, 2).act(0, 2, 7), 3);
        s.due("-7 by 2", thing(AIR, 0, 2).act(0, 2, -7), -3);
        s.due("-1 by 2", thing(AIR, 0, 2).act(0, 2, -1), 0);
        s.due("7 by -2", thing(AIR, 2, 0).act(0, 2, 7), -3);
        s.due("-7 by -2", thing(AIR, 2, 0).act(0, 2, -7), 3);
        s.due("1 by -2", thing(AIR, 2, 0).act(0, 2, 1), 0);
        s.due("-8 by 2", thing(AIR, 0, 2).act(0, 2, -8), -4);
        int[] thirds = {0, 0, 0, 1, 1, 1, 2, 2, 2, 3};
        for (int a = 0; a <= 9; a++) {
            s.due("a third of " + a, thing(MIST, 0, a).of(0, 5), 1001 + thirds[a]);
        }
    }

    private static final int[][] AIRS_TRACES = {{10}, {11, 10}, {12}, {13, 11, 10}};
    private static final int[][] RAINS_TRACES = {{10}, {20, 11, 10}, {12}, {13, 20, 11, 10}};
    private static final int[][] FOGS_TRACES = {{30, 10}, {11, 30, 10}, {12}, {31, 13, 11, 30, 10, 12}};
    private static final int[][] DRIZZLES_TRACES = {{51, 10}, {20, 11, 51, 10}, {50, 12}, {13, 20, 11, 51, 10}};
    private static final int[][] MISTS_TRACES = {{40, 30, 10}, {41, 11, 40, 30, 10, 40, 30, 10}, {12},
        {31, 13, 41, 11, 40, 30, 10, 40, 30, 10, 12}};
    private static final int[][] HEATS_TRACES = {{10}, {11, 10}, {61, 12, 10}, {60, 13, 11, 10}};
    private static final int[][][] TRACES = {AIRS_TRACES, RAINS_TRACES, FOGS_TRACES, DRIZZLES_TRACES, MISTS_TRACES,
        HEATS_TRACES};

    private static void traceIs(String call, WeatherDisguise x, int... bodies) {
        s.due(call + ": many(6)", x.many(6), bodies.length);
        for (int i = 0; i < bodies.length; i++) {
            s.due(call + ": trace(" + i + ")", x.trace(i), bodies[i]);
        }
        s.due(call + ": trace(" + bodies.length + ")", x.trace(bodies.length), -3);
    }

    private static void asTheyBegan() {
        for (int kind = 0; kind < 6; kind++) {
            WeatherDisguise x = thing(kind, 1, 2);
            for (int act = 3; act >= 0; act--) {
                x.act(0, act, 5);
                traceIs("act(0, " + act + ", 5) of KIND " + kind, x, TRACES[kind][act]);
            }
        }
        WeatherDisguise x = thing(HEAT, 2, 2);
        x.act(0, 2, 5);
        traceIs("parted by 0, none begins behind that", x, 61, 12);
        x.mind(2, DRIZZLE, 2);
        x.act(0, 2, 5);
        traceIs("parted by 0", x, 50, 12);
        x.mind(2, FOG, 2);
        x.act(0, 3, 5);
        traceIs("parted by 0 in halts", x, 31, 13, 11, 30, 10, 12);
    }

    private static void theMostThatRun() {
        WeatherDisguise x = thing(MIST, 1, 2);
        for (int i = 0; i < 5; i++) {
            x.act(0, 3, i);
            traceIs("the most that run, again and again", x, MISTS_TRACES[3]);
        }
        s.due("trace(29)", x.trace(29), -3);
        s.due("trace(30)", x.trace(30), -3);
    }

    private static void act() {
        WeatherDisguise x = thing(RAIN, 1, 3);
        s.due("act(0, 0, 4)", x.act(0, 0, 4), 37);
        s.due("act(0, 1, 4)", x.act(0, 1, 4), 30);
        s.due("act(0, 2, 4)", x.act(0, 2, 4), 2);
        s.due("act(0, 3, 4)", x.act(0, 3, 4), 30 ^ 130);
        x.shelf(3, 0, 0);
        s.due("act(3, 0, 4)", x.act(3, 0, 4), 36);
        s.due("many(0)", x.many(0), 2);
        s.due("of(1, 1)", x.of(1, 1), 3);
    }

    private static void noActOf(String told, WeatherDisguise x, int shelf, int act) {
        x.act(0, 3, 5);
        traceIs(told + ", before", x, RAINS_TRACES[3]);
        s.due("act(" + shelf + ", " + act + ", 5), " + told, x.act(shelf, act, 5), 0);
        traceIs(told, x);
    }

    /** On SHELF 0 is rain, on SHELF 1 a row of shorts, on SHELF 2 one of longs without items, on SHELF 3 nothing. */
    private static void noAct() {
        for (int shelf : new int[] {-1, 4, LEAST_INT, MOST_INT}) {
            noActOf("no such SHELF", Worlds.two(), shelf, 0);
        }
        for (int act : new int[] {-1, 4, LEAST_INT, MOST_INT}) {
            noActOf("no such act", Worlds.two(), 0, act);
        }
        for (int act = 0; act < 4; act++) {
            noActOf("nothing", Worlds.two(), 3, act);
            noActOf("a row", Worlds.two(), 1, act);
            noActOf("a row without items", Worlds.two(), 2, act);
        }
        WeatherDisguise x = Worlds.two();
        x.act(4, 0, 5);
        x.act(0, 0, 5);
        s.same("an act() of nothing", Whole.keptAndTape(x), Whole.keptAndTape(Worlds.two()));
    }

    private static void trace() {
        WeatherDisguise x = thing(RAIN, 1, 3);
        x.act(0, 3, 5);
        s.due("trace(0), the first", x.trace(0), 13);
        s.due("trace(3), the last", x.trace(3), 10);
        x.steps(60);
        x.keep();
        x.mind(1, FOG, 1);
        s.due("trace(0) as of the latest act()", x.trace(0), 13);
        x.city();
        s.due("trace(0) behind city(), as of the latest act()", x.trace(0), 13);
        x.again();
        s.due("trace(0) behind again(), as of the latest act()", x.trace(0), 13);
        x.mind(1, FOG, 1);
        x.act(0, 0, 5);
        s.due("trace(0) of a later act()", x.trace(0), 30);
        s.due("trace(1) of a later act()", x.trace(1), 10);
        s.due("trace(2) of a later act()", x.trace(2), -3);
    }

    private static void traceNone() {
        s.refused("trace(0) at first", -3, Worlds::fresh, x -> x.trace(0));
        for (int i : new int[] {-1, 4, 5, 10, 11, 29, 30, 31, LEAST_INT, MOST_INT}) {
            s.refused("trace(" + i + ") of four", -3, Worlds::two, x -> x.trace(i));
        }
        s.due("trace(3) of four", Worlds.two().trace(3), 10);
        WeatherDisguise x = thing(MIST, 1, 2);
        x.act(0, 3, 5);
        s.due("trace(10) of eleven", x.trace(10), 12);
        s.due("trace(11) of eleven", x.trace(11), -3);
        x.act(0, 0, 5);
        s.due("trace(3) of three, where eleven were", x.trace(3), -3);
    }
}
