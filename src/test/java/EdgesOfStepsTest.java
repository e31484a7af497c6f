/** Sentences that name a boundary of GOES, WETS, STEPS and DRAWS: Terms, promises 14 to 17. */
public final class EdgesOfStepsTest {
    private static final int TERMS = Sentences.TERMS;
    private static final int AIR = 0, RAIN = 1, FOG = 2, DRIZZLE = 3, MIST = 4, HEAT = 5, STAYS = 4;
    private static Sentences s;

    public static void main(String[] args) {
        all(new Sentences("EdgesOfStepsTest"));
        s.end();
    }

    static void all(Sentences sentences) {
        s = sentences;
        goes();
        wets();
        steps();
        draws();
    }

    private static void goes() {
        s.says(TERMS, "GOES (the way by which it goes, or it stays): air: WIND.", EdgesOfStepsTest::airGoes);
        s.says(TERMS, "rain: as air; but it stays, if its FORCE is less than SHY.", EdgesOfStepsTest::rainGoes);
        s.says(TERMS, "drizzle: if it isn't AT its ERRAND, towards that, by columns first, then by rows; it stays there.",
            EdgesOfStepsTest::drizzleGoes);
        s.says(TERMS, "fog: as air, in even STEPS; else it stays.", EdgesOfStepsTest::fogGoes);
        s.says(TERMS, "mist: as fog in STEPS whose rest by 4 is 0; else as drizzle does.", EdgesOfStepsTest::mistGoes);
        s.says(TERMS, "heat: it stays.", EdgesOfStepsTest::heatStays);
        s.says(TERMS, "What would lead out of the city: it stays.", EdgesOfStepsTest::outOfTheCity);
    }

    private static void wets() {
        s.says(TERMS, "WETS: air: 0.", () -> wetsBy(AIR, 0, 0, 0, 0, 0, 0, 0, 0, 0, 0));
        s.says(TERMS, "rain: 1, and FORCE.", () -> wetsBy(RAIN, 1, 2, 3, 4, 5, 6, 7, 8, 9, 10));
        s.says(TERMS, "drizzle: as rain; twice that AT its ERRAND.", EdgesOfStepsTest::drizzleWets);
        s.says(TERMS, "fog: 1.", () -> wetsBy(FOG, 1, 1, 1, 1, 1, 1, 1, 1, 1, 1));
        s.says(TERMS, "mist: as fog, and a third of FORCE (cut).", () -> wetsBy(MIST, 1, 1, 1, 2, 2, 2, 3, 3, 3, 4));
        s.says(TERMS, "heat: 0 less FORCE.", () -> wetsBy(HEAT, 0, -1, -2, -3, -4, -5, -6, -7, -8, -9));
    }

    private static void steps() {
        s.says(TERMS, "A STEP: (1) if STEP is above 0, and TURN divides it, WIND is the next way (behind 3 comes 0).",
            EdgesOfStepsTest::windTurns);
        s.says(TERMS, "(2) Each goes.", EdgesOfStepsTest::eachGoes);
        s.says(TERMS, "(3) The HOUSE AT which each is then is as much more WET as it WETS", EdgesOfStepsTest::wetThen);
        s.says(TERMS, "(held to 0 to 99 each time;", EdgesOfStepsTest::heldEachTime);
        s.says(TERMS, "by numbers).", EdgesOfStepsTest::byNumbers);
        s.says(TERMS, "STEP is 1 more.", EdgesOfStepsTest::stepIsOneMore);
        s.says(14, "n STEPS (1 to 60):", EdgesOfStepsTest::oneToSixty);
        s.says(14, "how many are AT their ERRANDS then.", EdgesOfStepsTest::atErrandsThen);
        s.says(14, "BAD.", EdgesOfStepsTest::stepsBad);
    }

    private static void draws() {
        s.says(TERMS, "DRAWS: z (an int; 1 at first) becomes z * 1103515245 + 12345;", EdgesOfStepsTest::zBecomes);
        s.says(TERMS, "z >>> 16 is drawn.", EdgesOfStepsTest::whatIsDrawn);
        s.says(TERMS, "A STEP BY DRAWS: a draw: if what it leaves by 100 is below GUST,", EdgesOfStepsTest::belowGust);
        s.says(TERMS, "WIND is the way that another draw leaves by 4;", EdgesOfStepsTest::theWayDrawn);
        s.says(TERMS, "then a STEP.", EdgesOfStepsTest::thenAStep);
        s.says(15, "z becomes v: what it was.", EdgesOfStepsTest::seed);
        s.says(16, "A STEP BY DRAWS: how many are AT their ERRANDS then.", EdgesOfStepsTest::step);
        s.says(TERMS, "BLOWN: in how many of n STEPS BY DRAWS,", EdgesOfStepsTest::howManyAreBlown);
        s.says(TERMS, "each tried from how all is now", EdgesOfStepsTest::triedFromNow);
        s.says(TERMS, "(z alone goes on),", EdgesOfStepsTest::zGoesOn);
        s.says(TERMS, "any of AIRS is AT another HOUSE then than behind a STEP", EdgesOfStepsTest::anyOfAirs);
        s.says(TERMS, "(nothing changes, z neither).", EdgesOfStepsTest::nothingChanges);
        s.says(17, "BLOWN (n 1 to 30).", EdgesOfStepsTest::blownOneToThirty);
        s.says(17, "BAD.", () -> s.within("blown(n)", Worlds::two, 1, 30, (x, v) -> x.blown(v)));
    }

    /** One of a KIND AT 5 in STEP n by WIND 1. */
    private static WeatherDisguise one(int n, int kind, int force, int errand) {
        WeatherDisguise x = new WeatherDisguise();
        for (int i = 0; i < n; i++) {
            x.steps(1);
        }
        x.blow(1);
        x.air(kind, force, errand, 5);
        return x;
    }

    /** The way is told, and a STEP (in which WIND doesn't turn) leads there. */
    private static void goesTo(WeatherDisguise x, int way, int house) {
        s.due("of(0, 4)", x.of(0, 4), way);
        x.set(0, 9);
        s.due("where(0, 1)", x.where(0, 1), house);
        x.steps(1);
        s.due("AT behind a STEP", x.of(0, 3), house);
    }

    private static void airGoes() {
        int[] houses = {6, 9, 4, 1};
        for (int way = 0; way < 4; way++) {
            WeatherDisguise x = one(0, AIR, 0, 5);
            x.blow(way);
            goesTo(x, way, houses[way]);
        }
        goesTo(one(1, AIR, 0, 5), 1, 9);
        goesTo(one(3, AIR, 9, 0), 1, 9);
    }

    private static void rainGoes() {
        for (int shy = 0; shy <= 9; shy++) {
            for (int force = 0; force <= 9; force++) {
                WeatherDisguise x = one(1, RAIN, force, 5);
                x.set(2, shy);
                s.due("FORCE " + force + ", SHY " + shy, x.of(0, 4), force < shy ? STAYS : 1);
            }
        }
        goesTo(one(0, RAIN, 1, 0), STAYS, 5);
        goesTo(one(0, RAIN, 2, 0), 1, 9);
        goesTo(one(0, RAIN, 3, 5), 1, 9);
    }

    private static void drizzleGoes() {
        int[] ways = {2, 3, 0, 0, 2, STAYS, 0, 0, 2, 1, 0, 0, 2, 1, 0, 0};
        int[] houses = {4, 1, 6, 6, 4, 5, 6, 6, 4, 9, 6, 6, 4, 9, 6, 6};
        for (int errand = 0; errand < 16; errand++) {
            goesTo(one(1, DRIZZLE, 0, errand), ways[errand], houses[errand]);
        }
        WeatherDisguise x = new WeatherDisguise();
        x.air(DRIZZLE, 0, 12, 3);
        int[] path = {2, 1, 0, 4, 8, 12, 12, 12};
        for (int house : path) {
            x.steps(1);
            s.due("from 3 to 12", x.of(0, 3), house);
        }
        s.due("it stays there", x.of(0, 4), STAYS);
    }

    private static void fogGoes() {
        for (int n = 0; n <= 9; n++) {
            goesTo(one(n, FOG, 9, 0), n % 2 == 0 ? 1 : STAYS, n % 2 == 0 ? 9 : 5);
        }
    }

    private static void mistGoes() {
        for (int n = 0; n <= 9; n++) {
            goesTo(one(n, MIST, 9, 3), n % 4 == 0 ? 1 : 0, n % 4 == 0 ? 9 : 6);
            goesTo(one(n, MIST, 9, 1), n % 4 == 0 ? 1 : 3, n % 4 == 0 ? 9 : 1);
            goesTo(one(n, MIST, 9, 5), n % 4 == 0 ? 1 : STAYS, n % 4 == 0 ? 9 : 5);
        }
    }

    private static void heatStays() {
        for (int way = 0; way < 4; way++) {
            WeatherDisguise x = one(0, HEAT, 9, 0);
            x.blow(way);
            goesTo(x, STAYS, 5);
        }
        goesTo(one(1, HEAT, 0, 6), STAYS, 5);
    }

    private static void outOfTheCity() {
        for (int house = 0; house < 16; house++) {
            boolean[] out = {house % 4 == 3, house / 4 == 3, house % 4 == 0, house / 4 == 0};
            int[] more = {1, 4, -1, -4};
            for (int way = 0; way < 4; way++) {
                for (int kind : new int[] {AIR, RAIN, FOG, MIST}) {
                    WeatherDisguise x = one(0, kind, 9, 0);
                    x.bring(0, house);
                    x.blow(way);
                    goesTo(x, out[way] ? STAYS : way, out[way] ? house : house + more[way]);
                }
            }
        }
    }

    private static void wetsBy(int kind, int... wets) {
        for (int force = 0; force <= 9; force++) {
            WeatherDisguise x = new WeatherDisguise();
            x.air(kind, force, 6, 5);
            s.due("of(0, 5) with FORCE " + force, x.of(0, 5), 1000 + wets[force]);
            x.set(2, 0);
            for (int house = 0; house < 16; house++) {
                x.pour(house, 50);
            }
            x.steps(1);
            int twice = kind == DRIZZLE ? 2 : 1;
            s.due("behind a STEP with FORCE " + force, x.house(x.of(0, 3), 0), 50 + twice * wets[force]);
        }
    }

    private static void drizzleWets() {
        wetsBy(DRIZZLE, 1, 2, 3, 4, 5, 6, 7, 8, 9, 10);
        for (int force = 0; force <= 9; force++) {
            WeatherDisguise x = new WeatherDisguise();
            x.air(DRIZZLE, force, 6, 6);
            s.due("of(0, 5) AT its ERRAND", x.of(0, 5), 1000 + 2 * (1 + force));
            x.steps(1);
            s.due("behind a STEP AT its ERRAND", x.house(6, 0), 2 * (1 + force));
        }
    }

    /** By TURN, WIND turns in the STEPS TURN, twice TURN, .. and in none before. */
    private static void windTurns() {
        for (int turn = 1; turn <= 9; turn++) {
            for (int first = 0; first < 4; first++) {
                WeatherDisguise x = new WeatherDisguise();
                x.set(0, turn);
                x.blow(first);
                for (int n = 1; n <= 4 * turn + 1; n++) {
                    x.steps(1);
                    s.due("WIND behind " + n + " by TURN " + turn, x.state(1), (first + (n - 1) / turn) % 4);
                }
            }
        }
        WeatherDisguise x = new WeatherDisguise();
        x.steps(7);
        x.set(0, 7);
        x.blow(3);
        x.steps(1);
        s.due("behind 3 comes 0", x.state(1), 0);
        x.steps(1);
        s.due("TURN 7 doesn't divide 8", x.state(1), 0);
    }

    private static void eachGoes() {
        WeatherDisguise x = new WeatherDisguise();
        x.set(0, 1);
        for (int i = 0; i < 8; i++) {
            x.air(AIR, 0, 0, i);
        }
        int[] behind = {1, 2, 3, 3, 5, 6, 7, 7};
        x.steps(1);
        for (int i = 0; i < 8; i++) {
            s.due("of(" + i + ", 3)", x.of(i, 3), behind[i]);
        }
        x.steps(1);
        for (int i = 0; i < 8; i++) {
            s.due("of(" + i + ", 3), by WIND as it has turned", x.of(i, 3), behind[i] + 4);
        }
    }

    private static void wetThen() {
        WeatherDisguise x = new WeatherDisguise();
        x.air(DRIZZLE, 2, 6, 5);
        x.steps(1);
        s.due("the HOUSE that it left", x.house(5, 0), 0);
        s.due("AT its ERRAND then: twice", x.house(6, 0), 6);
        s.due("all HOUSES together", x.state(2), 6);
        WeatherDisguise y = new WeatherDisguise();
        for (int i = 0; i < 8; i++) {
            y.air(FOG, 0, 0, 15);
        }
        y.steps(1);
        s.due("eight AT one HOUSE", y.house(15, 0), 8);
        y.pour(15, 8);
        for (int i = 0; i < 8; i++) {
            y.mind(i, HEAT, 1);
        }
        y.steps(1);
        s.due("eight AT one HOUSE", y.house(15, 0), 0);
    }

    private static void wetBehind(int kind, int force, int before, int behind) {
        WeatherDisguise x = new WeatherDisguise();
        x.air(kind, force, 0, 15);
        x.pour(15, before);
        x.steps(1);
        s.due("KIND " + kind + ", FORCE " + force + ", WET " + before, x.house(15, 0), behind);
    }

    private static void heldEachTime() {
        wetBehind(RAIN, 0, 97, 98);
        wetBehind(RAIN, 0, 98, 99);
        wetBehind(RAIN, 0, 99, 99);
        wetBehind(RAIN, 9, 88, 98);
        wetBehind(RAIN, 9, 89, 99);
        wetBehind(RAIN, 9, 90, 99);
        wetBehind(RAIN, 9, 99, 99);
        wetBehind(HEAT, 9, 10, 1);
        wetBehind(HEAT, 9, 9, 0);
        wetBehind(HEAT, 9, 8, 0);
        wetBehind(HEAT, 9, 0, 0);
        wetBehind(HEAT, 1, 1, 0);
        wetBehind(HEAT, 1, 0, 0);
        WeatherDisguise x = new WeatherDisguise();
        x.set(2, 9);
        x.air(RAIN, 8, 0, 15);
        int[] behind = {90, 99, 99, 99};
        x.steps(9);
        for (int wet : behind) {
            x.steps(1);
            s.due("rain that stays", x.house(15, 0), wet);
        }
    }

    private static void byNumbers() {
        WeatherDisguise x = new WeatherDisguise();
        x.air(RAIN, 9, 0, 15);
        x.air(HEAT, 9, 0, 15);
        x.pour(15, 95);
        x.steps(1);
        s.due("up to 99, then down", x.house(15, 0), 90);
        x.pour(15, 0);
        x.steps(1);
        s.due("up, then down", x.house(15, 0), 1);
        x.mind(0, HEAT, 9);
        x.mind(1, RAIN, 9);
        x.pour(15, 95);
        x.steps(1);
        s.due("down, then up", x.house(15, 0), 96);
        x.pour(15, 0);
        x.steps(1);
        s.due("down to 0, then up", x.house(15, 0), 10);
    }

    private static void stepIsOneMore() {
        WeatherDisguise x = new WeatherDisguise();
        x.air(FOG, 0, 0, 5);
        for (int n = 1; n <= 5; n++) {
            x.steps(1);
            s.due("state(0)", x.state(0), n);
        }
        s.due("fog went in STEPS 0 and 2 by WIND 0, in STEP 4 by WIND 1", x.of(0, 3), 11);
    }

    private static void oneToSixty() {
        for (int n : new int[] {1, 2, 59, 60}) {
            WeatherDisguise x = new WeatherDisguise();
            WeatherDisguise y = new WeatherDisguise();
            x.air(RAIN, 9, 7, 0);
            y.air(RAIN, 9, 7, 0);
            x.steps(n);
            for (int i = 0; i < n; i++) {
                y.steps(1);
            }
            s.due("state(0)", x.state(0), n);
            s.same(n + " at once are as one by one", Whole.told(x), Whole.told(y));
        }
    }

    private static void atErrandsThen() {
        WeatherDisguise x = new WeatherDisguise();
        s.due("steps(1) without AIRS", x.steps(1), 0);
        for (int i = 0; i < 8; i++) {
            x.air(DRIZZLE, 0, 15, 15 - i % 4);
            x.air(DRIZZLE, 0, 15, 15 - i % 4);
        }
        s.due("many(1) before", x.many(1), 2);
        s.due("steps(1)", x.steps(1), 4);
        s.due("steps(1)", x.steps(1), 6);
        s.due("steps(1)", x.steps(1), 8);
        s.due("steps(60)", x.steps(60), 8);
    }

    private static void stepsBad() {
        s.within("steps(n)", Worlds::two, 1, 60, (x, v) -> x.steps(v));
        s.within("steps(n)", Worlds::fresh, 1, 60, (x, v) -> x.steps(v));
    }

    private static int next(int z) {
        return (int) (z * 1103515245L + 12345L);
    }

    /** What a draw leaves by 100. */
    private static int left(int z) {
        return (int) ((next(z) & 0xffffffffL) >> 16) % 100;
    }

    private static void zBecomes() {
        s.due("z at first", new WeatherDisguise().seed(0), 1);
        int[] seeds = {1, 0, -1, Integer.MAX_VALUE, Integer.MIN_VALUE, 2, -2};
        int[] behind = {1103527590, 12345, -1103502900, 1043980748, -2147471303, -2087924461, 2087949151};
        for (int i = 0; i < seeds.length; i++) {
            WeatherDisguise x = new WeatherDisguise();
            x.set(3, 0);
            x.seed(seeds[i]);
            x.step();
            s.due("z behind a draw from " + seeds[i], x.seed(0), behind[i]);
        }
        WeatherDisguise x = new WeatherDisguise();
        x.set(3, 0);
        int z = 1;
        for (int i = 0; i < 100; i++) {
            x.step();
            z = next(z);
        }
        s.due("z behind a hundred", x.seed(0), z);
    }

    /** Of a z below 0, too, what is drawn is not below 0: -1770082073 behind 1103527590 draws 38526, that leaves 26. */
    private static void whatIsDrawn() {
        WeatherDisguise x = new WeatherDisguise();
        x.set(3, 26);
        x.seed(1103527590);
        x.step();
        s.due("26 is not below 26: a single draw", x.seed(1103527590), -1770082073);
        x.set(3, 27);
        x.step();
        s.due("26 is below 27: two draws", x.seed(0), next(-1770082073));
    }

    private static void belowGust() {
        boolean[] wasLeft = new boolean[100];
        for (int seed = 0; seed < 2000; seed++) {
            int left = left(seed);
            if (wasLeft[left]) {
                continue;
            }
            wasLeft[left] = true;
            for (int gust : new int[] {0, left - 1, left, left + 1, 99}) {
                if (gust >= 0 && gust <= 99) {
                    WeatherDisguise x = new WeatherDisguise();
                    x.set(3, gust);
                    x.seed(seed);
                    x.step();
                    s.due("GUST " + gust + " where " + left + " is left", x.seed(0),
                        left < gust ? next(next(seed)) : next(seed));
                }
            }
        }
        for (boolean was : wasLeft) {
            s.holds("0 to 99 have been left", was);
        }
    }

    private static void theWayDrawn() {
        boolean[] drawn = new boolean[4];
        for (int seed = 0; seed < 400; seed++) {
            if (left(seed) >= 99) {
                continue;
            }
            WeatherDisguise x = new WeatherDisguise();
            x.set(3, 99);
            x.seed(seed);
            x.blow(seed % 4);
            x.step();
            int way = (next(next(seed)) >>> 16) % 4;
            drawn[way] = true;
            s.due("WIND drawn from " + seed, x.state(1), way);
        }
        for (boolean was : drawn) {
            s.holds("0 to 3 have been drawn", was);
        }
        WeatherDisguise x = new WeatherDisguise();
        x.set(3, 0);
        x.blow(3);
        x.step();
        s.due("WIND without a gust", x.state(1), 3);
    }

    /** STEP is 12, and TURN 4: WIND turns behind the draw. */
    private static WeatherDisguise inStep12(int seed, int wind) {
        WeatherDisguise x = Worlds.eight();
        x.steps(7);
        x.seed(seed);
        x.blow(wind);
        return x;
    }

    private static void thenAStep() {
        for (int seed = 0; seed < 30; seed++) {
            boolean isGust = left(seed) < 50;
            int way = isGust ? (next(next(seed)) >>> 16) % 4 : 2;
            WeatherDisguise x = inStep12(seed, 2);
            WeatherDisguise y = inStep12(seed, way);
            s.due("state(0)", x.state(0), 12);
            x.step();
            y.steps(1);
            y.seed(isGust ? next(next(seed)) : next(seed));
            s.due("WIND has turned", x.state(1), (way + 1) % 4);
            s.same("a STEP by the WIND drawn", Whole.told(x), Whole.told(y));
        }
    }

    private static void seed() {
        WeatherDisguise x = new WeatherDisguise();
        int[] seeds = {0, -1, Integer.MIN_VALUE, Integer.MAX_VALUE, 7, 7};
        int was = 1;
        for (int seed : seeds) {
            s.due("seed(" + seed + ")", x.seed(seed), was);
            was = seed;
        }
        x.steps(60);
        x.blown(30);
        s.due("STEPS draw nothing", x.seed(0), 7);
    }

    private static void step() {
        WeatherDisguise x = new WeatherDisguise();
        s.due("step() without AIRS", x.step(), 0);
        for (int i = 0; i < 8; i++) {
            x.air(DRIZZLE, 0, 15, i < 4 ? 14 : 13);
        }
        s.due("step()", x.step(), 4);
        s.due("step()", x.step(), 8);
        s.due("state(0)", x.state(0), 3);
    }

    /** How many of n draws have a gust by a way for which that is told. */
    private static int gusts(int seed, int n, int gust, boolean[] ways) {
        int z = seed;
        int count = 0;
        for (int i = 0; i < n; i++) {
            boolean isGust = left(z) < gust;
            z = next(z);
            if (isGust) {
                z = next(z);
                count += ways[(z >>> 16) % 4] ? 1 : 0;
            }
        }
        return count;
    }

    private static final boolean[] NOT_0 = {false, true, true, true};

    private static void howManyAreBlown() {
        boolean[] found = new boolean[4];
        for (int seed = 0; seed < 200; seed++) {
            WeatherDisguise x = new WeatherDisguise();
            x.set(3, 60);
            x.air(AIR, 0, 0, 5);
            x.seed(seed);
            int due = gusts(seed, 3, 60, NOT_0);
            found[due] = true;
            s.due("blown(3) from " + seed, x.blown(3), due);
        }
        for (boolean was : found) {
            s.holds("0 to 3 of 3 have been", was);
        }
        WeatherDisguise calm = new WeatherDisguise();
        calm.air(AIR, 0, 0, 5);
        calm.set(3, 0);
        s.due("blown(30) by GUST 0", calm.blown(30), 0);
        s.due("blown(30) without AIRS", new WeatherDisguise().blown(30), 0);
    }

    /** An AIR in the last column: were it to go on, it would soon be elsewhere. */
    private static void triedFromNow() {
        WeatherDisguise x = new WeatherDisguise();
        x.set(3, 99);
        x.air(AIR, 0, 0, 3);
        boolean[] away = {false, true, true, false};
        for (int seed = 0; seed < 50; seed++) {
            x.seed(seed);
            s.due("blown(30) from " + seed, x.blown(30), gusts(seed, 30, 99, away));
        }
        WeatherDisguise y = new WeatherDisguise();
        y.set(0, 1);
        y.steps(1);
        y.set(3, 99);
        y.air(AIR, 0, 0, 5);
        y.seed(8);
        s.due("WIND turns in each", y.blown(30), gusts(8, 30, 99, NOT_0));
        WeatherDisguise z = new WeatherDisguise();
        z.set(3, 99);
        z.air(FOG, 0, 0, 5);
        z.seed(8);
        s.due("fog in STEP 0", z.blown(30), gusts(8, 30, 99, NOT_0));
        z.steps(1);
        s.due("fog in STEP 1", z.blown(30), 0);
    }

    private static void zGoesOn() {
        int seed = 0;
        while (gusts(seed, 1, 50, NOT_0) == gusts(next(seed), 1, 50, NOT_0) || left(seed) < 50) {
            seed++;
        }
        WeatherDisguise x = new WeatherDisguise();
        x.set(3, 50);
        x.air(AIR, 0, 0, 5);
        x.seed(seed);
        s.due("blown(1)", x.blown(1), 0);
        s.due("blown(2)", x.blown(2), 1);
    }

    private static void anyOfAirs() {
        for (int which = 0; which < 8; which++) {
            WeatherDisguise x = new WeatherDisguise();
            for (int i = 0; i < 8; i++) {
                x.air(i == which ? AIR : HEAT, 0, 0, 5);
            }
            x.set(3, 99);
            x.seed(5);
            s.due("blown(30) where " + which + " alone goes", x.blown(30), gusts(5, 30, 99, NOT_0));
        }
        WeatherDisguise all = new WeatherDisguise();
        for (int i = 0; i < 8; i++) {
            all.air(AIR, 0, 0, 5);
        }
        all.set(3, 99);
        all.seed(5);
        s.due("blown(30) where all go", all.blown(30), gusts(5, 30, 99, NOT_0));
    }

    private static void nothingChanges() {
        WeatherDisguise x = Worlds.eight();
        x.set(3, 99);
        x.blown(30);
        WeatherDisguise y = Worlds.eight();
        y.set(3, 99);
        s.same("blown(30)", Whole.told(x), Whole.told(y));
        s.same("blown(30)", Whole.keptAndTape(x), Whole.keptAndTape(y));
    }

    private static void blownOneToThirty() {
        for (int n : new int[] {1, 2, 29, 30}) {
            for (int seed = 0; seed < 60; seed++) {
                WeatherDisguise x = new WeatherDisguise();
                x.set(3, 99);
                x.air(AIR, 0, 0, 5);
                x.seed(seed);
                s.due("blown(" + n + ") from " + seed, x.blown(n), gusts(seed, n, 99, NOT_0));
            }
        }
    }
}
