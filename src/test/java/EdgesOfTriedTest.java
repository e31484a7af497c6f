/** Sentences that name a boundary of what is TRIED: Terms, promises 19 to 28. */
public final class EdgesOfTriedTest {
    private static final int TERMS = Sentences.TERMS;
    private static final int AIR = 0, RAIN = 1, FOG = 2, DRIZZLE = 3, MIST = 4, HEAT = 5;
    private static final int LEAST_INT = Integer.MIN_VALUE, MOST_INT = Integer.MAX_VALUE;
    /** Where an AIR is behind 0, 1, .. 11 STEPS that is AT 0 at first; then all comes again. */
    private static final int[] ROUND = {0, 1, 2, 3, 7, 11, 15, 14, 13, 12, 8, 4};
    private static Sentences s;

    public static void main(String[] args) {
        all(new Sentences("EdgesOfTriedTest"));
        s.end();
    }

    static void all(Sentences sentences) {
        s = sentences;
        s.says(TERMS, "2 What is asked here is TRIED; nothing changes.", EdgesOfTriedTest::nothingChanges);
        whereAndWhen();
        whatIsBest();
        ways();
    }

    private static void whereAndWhen() {
        s.says(TERMS, "WHERE of one by n: its HOUSE behind n STEPS.", EdgesOfTriedTest::whereIsBehindSteps);
        s.says(19, "WHERE of one by n (0 to 60).", EdgesOfTriedTest::where);
        s.says(19, "BAD.", EdgesOfTriedTest::whereBad);
        s.says(TERMS, "STOPS: behind the fewest STEPS (0 to 60) it is AT its ERRAND first.", EdgesOfTriedTest::stopsFirst);
        s.says(20, "STOPS.", EdgesOfTriedTest::stops);
        s.says(20, "BAD;", EdgesOfTriedTest::stopsBad);
        s.says(20, "NONE: not by then.", EdgesOfTriedTest::stopsNone);
        s.says(TERMS, "MEETS of two: behind the fewest (0 to 60) they are AT one HOUSE first.", EdgesOfTriedTest::meetsFirst);
        s.says(21, "MEETS of two.", EdgesOfTriedTest::meets);
        s.says(21, "BAD: also one and the same;", EdgesOfTriedTest::meetsBad);
        s.says(21, "NONE: not by then.", EdgesOfTriedTest::meetsNone);
        s.says(TERMS, "TOLD of one: behind the fewest (0 to 60) it is not AT the HOUSE AT which it would be, were it of"
            + " KIND 0 from now on, first.", EdgesOfTriedTest::toldFirst);
        s.says(22, "TOLD.", EdgesOfTriedTest::told);
        s.says(22, "BAD;", EdgesOfTriedTest::toldBad);
        s.says(22, "NONE: not by then.", EdgesOfTriedTest::toldNone);
    }

    private static void whatIsBest() {
        s.says(TERMS, "OFF of one by n: how many columns and rows it is from its ERRAND behind n STEPS, together.",
            EdgesOfTriedTest::columnsAndRows);
        s.says(23, "OFF of one by n (0 to 60).", EdgesOfTriedTest::off);
        s.says(23, "BAD.", EdgesOfTriedTest::offBad);
        s.says(TERMS, "WIND FOR one, n: the WIND by which, were it that now, it is OFF least by n; of several the least.",
            EdgesOfTriedTest::windForIsTheLeast);
        s.says(24, "WIND FOR one, n (1 to 30).", EdgesOfTriedTest::windFor);
        s.says(24, "BAD.", EdgesOfTriedTest::windForBad);
        s.says(TERMS, "KIND FOR one, n: the KIND as one of which it is; of several the least.",
            EdgesOfTriedTest::kindForIsTheLeast);
        s.says(25, "KIND FOR one, n (1 to 30).", EdgesOfTriedTest::kindFor);
        s.says(25, "BAD.", EdgesOfTriedTest::kindForBad);
        s.says(TERMS, "SEEN by n: the fewest HOUSES such that each of AIRS is AT one of these now or behind one of 1 to n"
            + " STEPS", EdgesOfTriedTest::seenNowOrBehind);
        s.says(TERMS, "(0, if there are none).", EdgesOfTriedTest::seenWithoutAirs);
        s.says(26, "SEEN by n (0 to 30).", EdgesOfTriedTest::seen);
        s.says(26, "BAD.", EdgesOfTriedTest::seenBad);
    }

    private static void ways() {
        s.says(TERMS, "DRY WAY from a HOUSE to a HOUSE: the fewest steps (each by a way to the next HOUSE) from one to the"
            + " other,", EdgesOfTriedTest::fewestSteps);
        s.says(TERMS, "none of them, the first and the last neither, being WET by DAMP or more.",
            EdgesOfTriedTest::noneWetByDamp);
        s.says(27, "DRY WAY.", EdgesOfTriedTest::dryWay);
        s.says(27, "BAD;", EdgesOfTriedTest::dryWayBad);
        s.says(27, "NONE: there is none.", EdgesOfTriedTest::dryWayNone);
        s.says(TERMS, "FITS of one by a SHEET: those HOUSES AT which it might be now so that it is, behind 1, 2, .. STEPS,"
            + " AT those that the numbers of the SHEET tell, one by one", EdgesOfTriedTest::fitsOneByOne);
        s.says(TERMS, "(-1: any).", EdgesOfTriedTest::fitsAny);
        s.says(28, "FITS: what = 0 how many HOUSES, 1 the least.", EdgesOfTriedTest::fits);
        s.says(28, "BAD: no such SHEET, one, what;", EdgesOfTriedTest::fitsBad);
        s.says(28, "-11;", EdgesOfTriedTest::fitsMissing);
        s.says(28, "NONE (what 1): none.", EdgesOfTriedTest::fitsNone);
    }

    private static WeatherDisguise one(int kind, int force, int errand, int house) {
        WeatherDisguise x = new WeatherDisguise();
        x.air(kind, force, errand, house);
        return x;
    }

    private static void nothingChanges() {
        WeatherDisguise x = Worlds.eight();
        for (int i = 0; i < 8; i++) {
            x.where(i, 60);
            x.stops(i);
            x.meets(i, (i + 1) % 8);
            x.told(i);
            x.off(i, 60);
            x.windFor(i, 30);
            x.kindFor(i, 30);
            x.fits(0, i, 0);
            x.fits(1, i, 1);
        }
        x.seen(30);
        x.dryWay(0, 15);
        x.odds(8, 4, 0);
        x.hope(99, 1);
        s.same("what is TRIED", Whole.told(x), Whole.told(Worlds.eight()));
        s.same("what is TRIED", Whole.keptAndTape(x), Whole.keptAndTape(Worlds.eight()));
    }

    private static void whereIsBehindSteps() {
        for (int n : new int[] {0, 1, 2, 59, 60}) {
            WeatherDisguise x = Worlds.eight();
            WeatherDisguise y = Worlds.eight();
            if (n > 0) {
                y.steps(n);
            }
            for (int i = 0; i < 8; i++) {
                s.due("where(" + i + ", " + n + ")", x.where(i, n), y.of(i, 3));
            }
        }
    }

    private static void where() {
        WeatherDisguise x = one(AIR, 0, 0, 0);
        for (int n = 0; n <= 60; n++) {
            s.due("where(0, " + n + ")", x.where(0, n), ROUND[n % 12]);
        }
        s.within("where(1, n)", Worlds::two, 0, 60, (y, v) -> y.where(1, v));
    }

    private static void whereBad() {
        s.within("where(1, n)", Worlds::two, 0, 60, (x, v) -> x.where(1, v));
        s.within("where(air, 0)", Worlds::two, 0, 1, (x, v) -> x.where(v, 0));
        s.within("where(air, 60)", Worlds::eight, 0, 7, (x, v) -> x.where(v, 60));
        s.bad("where(air, 0) without AIRS", Worlds::fresh, (x, v) -> x.where(v, 0), 0);
    }

    /** AT 1 behind 1, 13, 25, .. STEPS: 1 is first. */
    private static void stopsFirst() {
        int[] behind = {0, 1, 2, 3, 11, -3, -3, 4, 10, -3, -3, 5, 9, 8, 7, 6};
        for (int errand = 0; errand < 16; errand++) {
            s.due("stops(0) with ERRAND " + errand, one(AIR, 0, errand, 0).stops(0), behind[errand]);
        }
        s.due("it is there now", one(HEAT, 0, 5, 5).stops(0), 0);
        s.due("six off", one(DRIZZLE, 0, 15, 0).stops(0), 6);
    }

    /** A fog that stops as late as any that stops at all. */
    private static WeatherDisguise late() {
        WeatherDisguise x = new WeatherDisguise();
        x.steps(15);
        x.set(0, 9);
        x.blow(0);
        return x;
    }

    private static void stops() {
        WeatherDisguise x = late();
        x.air(FOG, 0, 14, 0);
        s.due("as late as may be", x.stops(0), 50);
        s.due("where(0, 50)", x.where(0, 50), 14);
        x.send(0, 0);
        s.due("now", x.stops(0), 0);
    }

    private static void stopsBad() {
        s.bad("stops(air)", Worlds::two, (x, v) -> x.stops(v), -1, 2, LEAST_INT, MOST_INT);
        s.bad("stops(air)", Worlds::eight, (x, v) -> x.stops(v), -1, 8);
        s.bad("stops(air) without AIRS", Worlds::fresh, (x, v) -> x.stops(v), 0);
        s.due("stops(1), the last one", one(DRIZZLE, 0, 1, 0).stops(0), 1);
    }

    private static void stopsNone() {
        s.refused("stops(0) of heat elsewhere", -3, () -> one(HEAT, 0, 5, 6), x -> x.stops(0));
        s.refused("stops(0) of an AIR that goes round", -3, () -> one(AIR, 0, 5, 0), x -> x.stops(0));
        s.due("heat that is there", one(HEAT, 0, 6, 6).stops(0), 0);
    }

    private static WeatherDisguise both(int kind, int house, int otherKind, int other) {
        WeatherDisguise x = one(kind, 0, 15, house);
        x.air(otherKind, 0, 15, other);
        return x;
    }

    private static void meetsFirst() {
        int[] behind = {0, 1, 2, 3, 11, -3, -3, 4, 10, -3, -3, 5, 9, 8, 7, 6};
        for (int house = 0; house < 16; house++) {
            s.due("meets(0, 1), heat AT " + house, both(AIR, 0, HEAT, house).meets(0, 1), behind[house]);
            s.due("meets(1, 0), heat AT " + house, both(AIR, 0, HEAT, house).meets(1, 0), behind[house]);
        }
        s.due("AT one HOUSE now", both(AIR, 7, DRIZZLE, 7).meets(0, 1), 0);
        s.due("one into the other's HOUSE, from which that goes", both(AIR, 4, AIR, 5).meets(0, 1), 3);
    }

    private static void meets() {
        WeatherDisguise x = late();
        x.air(FOG, 0, 0, 0);
        x.air(MIST, 0, 14, 1);
        s.due("as late as may be", x.meets(0, 1), 51);
        s.due("as late as may be", x.meets(1, 0), 51);
        s.due("where(0, 51)", x.where(0, 51), x.where(1, 51));
        WeatherDisguise y = Worlds.eight();
        y.bring(7, 0);
        y.bring(0, 0);
        s.due("the first and the last", y.meets(0, 7), 0);
        s.due("the last and the first", y.meets(7, 0), 0);
    }

    private static void meetsBad() {
        s.bad("meets(one, the same)", Worlds::two, (x, v) -> x.meets(v, v), 0, 1, 2, -1);
        s.bad("meets(air, 1)", Worlds::two, (x, v) -> x.meets(v, 1), -1, 2, LEAST_INT, MOST_INT);
        s.bad("meets(0, other)", Worlds::two, (x, v) -> x.meets(0, v), -1, 2, LEAST_INT, MOST_INT);
        s.bad("meets(air, 7)", Worlds::eight, (x, v) -> x.meets(v, 7), -1, 7, 8);
        s.bad("meets(air, 0) of a single one", () -> one(AIR, 0, 0, 0), (x, v) -> x.meets(v, 0), 0, 1);
        s.due("meets(0, 1)", both(HEAT, 3, HEAT, 3).meets(0, 1), 0);
    }

    private static void meetsNone() {
        s.refused("meets(0, 1) of two that stay", -3, () -> both(HEAT, 3, HEAT, 4), x -> x.meets(0, 1));
        s.refused("meets(1, 0) of two that stay", -3, () -> both(HEAT, 3, HEAT, 4), x -> x.meets(1, 0));
    }

    private static void toldFirst() {
        s.due("heat", one(HEAT, 0, 0, 5).told(0), 1);
        s.due("heat where air stays for 3 STEPS", one(HEAT, 0, 0, 3).told(0), 4);
        s.due("rain of FORCE 1 by SHY 2", one(RAIN, 1, 0, 5).told(0), 1);
        s.due("fog goes in STEP 0, not in STEP 1", one(FOG, 0, 0, 4).told(0), 2);
        s.due("drizzle by the same way", one(DRIZZLE, 0, 7, 4).told(0), 4);
        s.due("mist by another way in STEP 1", one(MIST, 0, 9, 4).told(0), 2);
        WeatherDisguise x = one(HEAT, 0, 0, 5);
        x.steps(3);
        s.due("heat by WIND as it turns", x.told(0), 1);
        x.bring(0, 2);
        s.due("heat AT 2 by WIND 1", x.told(0), 1);
    }

    private static void told() {
        WeatherDisguise x = one(FOG, 0, 0, 14);
        x.set(0, 9);
        s.due("as late as may be", x.told(0), 20);
        x.mind(0, AIR, 0);
        int air = x.where(0, 20);
        int airBefore = x.where(0, 19);
        x.mind(0, FOG, 0);
        s.holds("where(0, 20) is another", x.where(0, 20) != air);
        s.due("where(0, 19) is the same", x.where(0, 19), airBefore);
    }

    private static void toldBad() {
        s.bad("told(air)", Worlds::two, (x, v) -> x.told(v), -1, 2, LEAST_INT, MOST_INT);
        s.bad("told(air)", Worlds::eight, (x, v) -> x.told(v), -1, 8);
        s.bad("told(air) without AIRS", Worlds::fresh, (x, v) -> x.told(v), 0);
    }

    private static void toldNone() {
        s.refused("told(0) of an air", -3, () -> one(AIR, 0, 5, 5), x -> x.told(0));
        s.refused("told(0) of rain that goes", -3, () -> one(RAIN, 2, 5, 5), x -> x.told(0));
        WeatherDisguise x = one(RAIN, 2, 5, 5);
        x.set(2, 3);
        s.due("told(0) of that rain by SHY 3", x.told(0), 1);
    }

    private static void columnsAndRows() {
        for (int house = 0; house < 16; house++) {
            for (int errand = 0; errand < 16; errand++) {
                int columns = Math.abs(house % 4 - errand % 4);
                int rows = Math.abs(house / 4 - errand / 4);
                s.due("from " + house + " to " + errand, one(HEAT, 0, errand, house).off(0, 9), columns + rows);
            }
        }
    }

    private static void off() {
        WeatherDisguise x = one(AIR, 0, 15, 0);
        for (int n = 0; n <= 60; n++) {
            s.due("off(0, " + n + ")", x.off(0, n), n % 12 <= 6 ? 6 - n % 12 : n % 12 - 6);
        }
        s.within("off(1, n)", Worlds::two, 0, 60, (y, v) -> y.off(1, v));
    }

    private static void offBad() {
        s.within("off(1, n)", Worlds::two, 0, 60, (x, v) -> x.off(1, v));
        s.within("off(air, 0)", Worlds::two, 0, 1, (x, v) -> x.off(v, 0));
        s.within("off(air, 60)", Worlds::eight, 0, 7, (x, v) -> x.off(v, 60));
        s.bad("off(air, 0) without AIRS", Worlds::fresh, (x, v) -> x.off(v, 0), 0);
    }

    private static void windForIsTheLeast() {
        int[] errands = {6, 9, 4, 1, 5, 10, 8, 0, 2, 15, 3, 12};
        int[] best = {0, 1, 2, 3, 0, 0, 1, 2, 0, 0, 0, 1};
        for (int i = 0; i < errands.length; i++) {
            s.due("windFor(0, 1) from 5 to " + errands[i], one(AIR, 0, errands[i], 5).windFor(0, 1), best[i]);
        }
        s.due("all four are the same to heat", one(HEAT, 0, 0, 5).windFor(0, 30), 0);
        WeatherDisguise turns = one(AIR, 0, 6, 5);
        turns.steps(3);
        turns.bring(0, 5);
        s.due("were WIND 3 now, it turns to 0 in STEP 3", turns.windFor(0, 1), 3);
        s.due("WIND stays", turns.state(1), 0);
    }

    private static void windFor() {
        for (int n : new int[] {1, 2, 3, 29, 30}) {
            for (int errand = 0; errand < 16; errand++) {
                for (int kind : new int[] {AIR, FOG, MIST}) {
                    int best = 0;
                    int least = 99;
                    for (int way = 0; way < 4; way++) {
                        WeatherDisguise y = one(kind, 0, errand, 5);
                        y.blow(way);
                        best = y.off(0, n) < least ? way : best;
                        least = Math.min(least, y.off(0, n));
                    }
                    s.due("windFor(0, " + n + ")", one(kind, 0, errand, 5).windFor(0, n), best);
                }
            }
        }
        s.within("windFor(1, n)", Worlds::two, 1, 30, (x, v) -> x.windFor(1, v));
    }

    private static void windForBad() {
        s.within("windFor(1, n)", Worlds::two, 1, 30, (x, v) -> x.windFor(1, v));
        s.within("windFor(air, 1)", Worlds::two, 0, 1, (x, v) -> x.windFor(v, 1));
        s.within("windFor(air, 30)", Worlds::eight, 0, 7, (x, v) -> x.windFor(v, 30));
        s.bad("windFor(air, 1) without AIRS", Worlds::fresh, (x, v) -> x.windFor(v, 1), 0);
    }

    private static void kindForIsTheLeast() {
        s.due("air, rain, fog, drizzle and mist are the same", one(HEAT, 9, 6, 5).kindFor(0, 1), AIR);
        s.due("rain that stays, before drizzle and heat", one(HEAT, 1, 5, 5).kindFor(0, 1), RAIN);
        s.due("rain that goes: drizzle stays, before heat", one(AIR, 2, 5, 5).kindFor(0, 1), DRIZZLE);
        s.due("fog that stays in STEP 1", one(AIR, 2, 6, 5).kindFor(0, 2), FOG);
        s.due("drizzle alone", one(AIR, 9, 9, 5).kindFor(0, 1), DRIZZLE);
        WeatherDisguise x = one(AIR, 9, 9, 5);
        x.steps(1);
        x.bring(0, 5);
        s.due("drizzle before mist, in STEP 1", x.kindFor(0, 1), DRIZZLE);
        s.due("KIND stays", x.of(0, 0), AIR);
    }

    private static void kindFor() {
        for (int n : new int[] {1, 2, 3, 29, 30}) {
            for (int errand = 0; errand < 16; errand++) {
                for (int force : new int[] {1, 2}) {
                    int best = 0;
                    int least = 99;
                    for (int kind = 0; kind < 6; kind++) {
                        int off = one(kind, force, errand, 5).off(0, n);
                        best = off < least ? kind : best;
                        least = Math.min(least, off);
                    }
                    s.due("kindFor(0, " + n + ")", one(HEAT, force, errand, 5).kindFor(0, n), best);
                }
            }
        }
        s.within("kindFor(1, n)", Worlds::two, 1, 30, (x, v) -> x.kindFor(1, v));
    }

    private static void kindForBad() {
        s.within("kindFor(1, n)", Worlds::two, 1, 30, (x, v) -> x.kindFor(1, v));
        s.within("kindFor(air, 1)", Worlds::two, 0, 1, (x, v) -> x.kindFor(v, 1));
        s.within("kindFor(air, 30)", Worlds::eight, 0, 7, (x, v) -> x.kindFor(v, 30));
        s.bad("kindFor(air, 1) without AIRS", Worlds::fresh, (x, v) -> x.kindFor(v, 1), 0);
    }

    private static void seenNowOrBehind() {
        s.due("seen(0), an AIR AT 0 and heat AT 3", both(AIR, 0, HEAT, 3).seen(0), 2);
        s.due("seen(2)", both(AIR, 0, HEAT, 3).seen(2), 2);
        s.due("seen(3)", both(AIR, 0, HEAT, 3).seen(3), 1);
        s.due("seen(10), heat AT 4", both(AIR, 0, HEAT, 4).seen(10), 2);
        s.due("seen(11), heat AT 4", both(AIR, 0, HEAT, 4).seen(11), 1);
        s.due("seen(1), AT 3 now and AT 3 behind one", both(AIR, 3, AIR, 2).seen(1), 1);
        s.due("seen(2), now AT 2 and behind two AT 2", both(DRIZZLE, 2, AIR, 0).seen(2), 1);
        s.due("seen(0), both AT one", both(AIR, 6, HEAT, 6).seen(0), 1);
        WeatherDisguise x = new WeatherDisguise();
        for (int i = 0; i < 8; i++) {
            x.air(HEAT, 0, 0, 2 * i);
        }
        s.due("seen(0) of eight that stay", x.seen(0), 8);
        s.due("seen(30) of eight that stay", x.seen(30), 8);
        for (int i = 0; i < 8; i++) {
            x.bring(i, 15);
        }
        s.due("seen(0) of eight AT one", x.seen(0), 1);
    }

    private static void seenWithoutAirs() {
        s.due("seen(0)", new WeatherDisguise().seen(0), 0);
        s.due("seen(30)", new WeatherDisguise().seen(30), 0);
        s.due("seen(0) of one", one(AIR, 0, 0, 0).seen(0), 1);
        s.due("seen(30) of one", one(AIR, 0, 0, 0).seen(30), 1);
    }

    /** The fewest HOUSES, by all sets of HOUSES, of which each AIR is AT one behind 0 to n STEPS. */
    private static int fewest(WeatherDisguise x, int airs, int n) {
        int[] visited = new int[airs];
        for (int i = 0; i < airs; i++) {
            for (int j = 0; j <= n; j++) {
                visited[i] |= 1 << x.where(i, j);
            }
        }
        int fewest = 16;
        for (int houses = 0; houses < 65536; houses++) {
            boolean all = Integer.bitCount(houses) < fewest;
            for (int i = 0; i < airs && all; i++) {
                all = (visited[i] & houses) != 0;
            }
            fewest = all ? Integer.bitCount(houses) : fewest;
        }
        return fewest;
    }

    private static void seen() {
        for (int n : new int[] {0, 1, 2, 5, 29, 30}) {
            s.due("seen(" + n + ") of eight", Worlds.eight().seen(n), fewest(Worlds.eight(), 8, n));
            s.due("seen(" + n + ") of two", Worlds.two().seen(n), fewest(Worlds.two(), 2, n));
        }
        WeatherDisguise x = both(AIR, 3, HEAT, 2);
        x.set(0, 7);
        s.due("seen(29), one of them isn't there yet", x.seen(29), 2);
        s.due("seen(30), it is there behind 30 for the first time", x.seen(30), 1);
        s.due("seen(29) behind seen(30)", x.seen(29), 2);
        s.within("seen(n)", Worlds::eight, 0, 30, (y, v) -> y.seen(v));
    }

    private static void seenBad() {
        s.within("seen(n)", Worlds::eight, 0, 30, (x, v) -> x.seen(v));
        s.within("seen(n) without AIRS", Worlds::fresh, 0, 30, (x, v) -> x.seen(v));
    }

    private static WeatherDisguise walled(int v, int... houses) {
        WeatherDisguise x = new WeatherDisguise();
        for (int house : houses) {
            x.pour(house, v);
        }
        return x;
    }

    private static void fewestSteps() {
        for (int from = 0; from < 16; from++) {
            for (int to = 0; to < 16; to++) {
                int apart = Math.abs(from % 4 - to % 4) + Math.abs(from / 4 - to / 4);
                s.due("dryWay(" + from + ", " + to + ")", new WeatherDisguise().dryWay(from, to), apart);
            }
        }
        s.due("the longest that there is", walled(6, 5, 6, 8).dryWay(12, 4), 10);
        s.due("the longest, and back", walled(6, 5, 6, 8).dryWay(4, 12), 10);
        s.due("by rows to and fro", walled(6, 4, 5, 6, 9, 10, 11, 15).dryWay(0, 7), 4);
        s.due("from 3 to 4 round nothing", walled(6).dryWay(3, 4), 4);
        s.due("3 and 4 are not next to each other", walled(6, 2, 7).dryWay(3, 4), -3);
        s.due("12 and 11 are not next to each other", walled(6, 8, 13).dryWay(12, 11), -3);
    }

    private static void noneWetByDamp() {
        s.due("one between is WET by DAMP less 1", walled(5, 1, 4).dryWay(0, 5), 2);
        s.due("all between are WET by DAMP", walled(6, 1, 4).dryWay(0, 5), -3);
        s.due("the first is WET by DAMP", walled(6, 0).dryWay(0, 1), -3);
        s.due("the first is WET by DAMP less 1", walled(5, 0).dryWay(0, 1), 1);
        s.due("the last is WET by DAMP", walled(6, 1).dryWay(0, 1), -3);
        s.due("the last is WET by DAMP less 1", walled(5, 1).dryWay(0, 1), 1);
        s.due("one and the same, WET by DAMP", walled(6, 9).dryWay(9, 9), -3);
        s.due("one and the same, WET by DAMP less 1", walled(5, 9).dryWay(9, 9), 0);
        WeatherDisguise x = walled(0);
        x.set(1, 0);
        s.due("by DAMP 0 all are WET", x.dryWay(0, 15), -3);
        s.due("by DAMP 0 all are WET", x.dryWay(9, 9), -3);
        x.set(1, 1);
        s.due("by DAMP 1 none is", x.dryWay(0, 15), 6);
        WeatherDisguise y = walled(98, 1, 4);
        y.set(1, 99);
        s.due("by DAMP 99 none is WET by 98", y.dryWay(0, 5), 2);
        y.pour(1, 99);
        s.due("by DAMP 99 one is WET by 99", y.dryWay(0, 5), 2);
        y.pour(4, 99);
        s.due("by DAMP 99 both are", y.dryWay(0, 5), -3);
    }

    private static void dryWay() {
        WeatherDisguise x = new WeatherDisguise();
        s.due("dryWay(0, 0)", x.dryWay(0, 0), 0);
        s.due("dryWay(15, 15)", x.dryWay(15, 15), 0);
        s.due("dryWay(0, 15)", x.dryWay(0, 15), 6);
        s.due("dryWay(15, 0)", x.dryWay(15, 0), 6);
        s.due("dryWay(3, 12)", x.dryWay(3, 12), 6);
        x.air(RAIN, 9, 0, 5);
        s.due("AIRS bar no way", x.dryWay(4, 6), 2);
    }

    private static void dryWayBad() {
        s.within("dryWay(from, 0)", Worlds::fresh, 0, 15, (x, v) -> x.dryWay(v, 0));
        s.within("dryWay(0, to)", Worlds::fresh, 0, 15, (x, v) -> x.dryWay(0, v));
        s.bad("dryWay(one, the same)", Worlds::two, (x, v) -> x.dryWay(v, v), -1, 16);
        WeatherDisguise x = walled(99, 0);
        s.due("BAD before NONE", x.dryWay(0, 16), -1);
    }

    private static void dryWayNone() {
        s.refused("a corner shut off", -3, () -> walled(99, 11, 14), x -> x.dryWay(0, 15));
        s.refused("out of a corner shut off", -3, () -> walled(6, 1, 4), x -> x.dryWay(0, 15));
        s.refused("a row of WET ones", -3, () -> walled(6, 4, 5, 6, 7), x -> x.dryWay(0, 8));
        s.due("a row with a gap", walled(6, 4, 5, 6).dryWay(0, 8), 8);
    }

    /** One, and a SHEET of a sort with numbers. */
    private static WeatherDisguise sheet(int kind, int sort, int... numbers) {
        WeatherDisguise x = one(kind, 0, 10, 9);
        x.sheet(0, sort, numbers.length);
        for (int i = 0; i < numbers.length; i++) {
            x.put(0, i, numbers[i]);
        }
        return x;
    }

    private static void fits(WeatherDisguise x, int count, int least) {
        s.due("fits(0, 0, 0)", x.fits(0, 0, 0), count);
        s.due("fits(0, 0, 1)", x.fits(0, 0, 1), least);
    }

    private static void fitsOneByOne() {
        for (int sort = 0; sort < 4; sort++) {
            fits(sheet(AIR, sort), 16, 0);
            fits(sheet(AIR, sort, 7), 2, 6);
            fits(sheet(AIR, sort, 7, 7), 2, 6);
            fits(sheet(AIR, sort, 6, 7), 1, 5);
            fits(sheet(AIR, sort, 7, 6), 0, -3);
            fits(sheet(AIR, sort, 4), 0, -3);
            fits(sheet(AIR, sort, 16), 0, -3);
            fits(sheet(AIR, sort, -2), 0, -3);
            fits(sheet(HEAT, sort, 15, 15, 15), 1, 15);
            fits(sheet(HEAT, sort, 0, 0, 0), 1, 0);
            fits(sheet(AIR, sort, 7, 7, 7, 11), 2, 6);
        }
        int[] forty = new int[40];
        java.util.Arrays.fill(forty, -1);
        forty[39] = 7;
        fits(sheet(AIR, 0, forty), 16, 0);
        forty[39] = 6;
        fits(sheet(AIR, 0, forty), 0, -3);
        forty[39] = 7;
        forty[38] = one(AIR, 0, 0, 0).where(0, 39);
        WeatherDisguise x = sheet(AIR, 1, forty);
        int count = 0;
        for (int house = 0; house < 16; house++) {
            x.bring(0, house);
            count += x.where(0, 39) == forty[38] && x.where(0, 40) == 7 ? 1 : 0;
        }
        s.due("fits(0, 0, 0) by the last two of 40", x.fits(0, 0, 0), count);
    }

    private static void fitsAny() {
        fits(sheet(AIR, 0, -1), 16, 0);
        fits(sheet(AIR, 0, 255), 16, 0);
        fits(sheet(AIR, 1, 255), 0, -3);
        fits(sheet(AIR, 1, 65535), 16, 0);
        fits(sheet(AIR, 2, 65535), 0, -3);
        fits(sheet(AIR, 2, -1), 16, 0);
        fits(sheet(AIR, 3, -1), 16, 0);
        fits(sheet(HEAT, 3, -1, 15, -1), 1, 15);
        fits(sheet(AIR, 3, -1, 7), 3, 5);
    }

    private static void fits() {
        WeatherDisguise x = sheet(DRIZZLE, 0, -1, 10);
        s.due("two STEPS are enough from 11 HOUSES to 10", x.fits(0, 0, 0), 11);
        s.due("the least of these", x.fits(0, 0, 1), 2);
        WeatherDisguise y = Worlds.eight();
        y.mind(7, HEAT, 0);
        y.sheet(3, 2, 1);
        y.put(3, 0, 15);
        s.due("of the last one by the last SHEET", y.fits(3, 7, 1), 15);
        s.due("of the last one by the last SHEET", y.fits(3, 7, 0), 1);
        y.put(3, 0, 0);
        s.due("the least may be 0", y.fits(3, 7, 1), 0);
    }

    private static void fitsBad() {
        s.due("fits(0, 1, 0), the least SHEET", Worlds.two().fits(0, 1, 0), 0);
        s.due("fits(3, 1, 0), the last SHEET, missing", Worlds.two().fits(3, 1, 0), -11);
        s.bad("fits(sheet, 1, 0)", Worlds::two, (x, v) -> x.fits(v, 1, 0), -1, 4, LEAST_INT, MOST_INT);
        s.within("fits(2, air, 1)", Worlds::two, 0, 1, (x, v) -> x.fits(2, v, 1));
        s.within("fits(2, air, 0)", Worlds::eight, 0, 7, (x, v) -> x.fits(2, v, 0));
        s.within("fits(2, 1, what)", Worlds::two, 0, 1, (x, v) -> x.fits(2, 1, v));
        s.bad("fits(3, air, 0), missing", Worlds::two, (x, v) -> x.fits(3, v, 0), -1, 2);
        s.bad("fits(3, 1, what), missing", Worlds::two, (x, v) -> x.fits(3, 1, v), -1, 2);
    }

    private static void fitsMissing() {
        s.refused("fits(3, 1, 0), missing", -11, Worlds::two, x -> x.fits(3, 1, 0));
        s.refused("fits(3, 1, 1), missing", -11, Worlds::two, x -> x.fits(3, 1, 1));
        s.refused("fits(0, 0, 0), missing at first", -11, () -> one(AIR, 0, 0, 0), x -> x.fits(0, 0, 0));
        s.due("fits(2, 1, 0) of no numbers", Worlds.two().fits(2, 1, 0), 16);
    }

    private static void fitsNone() {
        s.refused("fits(0, 0, 1), none", -3, () -> sheet(AIR, 0, 4), x -> x.fits(0, 0, 1));
        s.due("fits(0, 0, 0), none", sheet(AIR, 0, 4).fits(0, 0, 0), 0);
        s.refused("fits(0, 0, 1), no HOUSE 16", -3, () -> sheet(HEAT, 2, 16), x -> x.fits(0, 0, 1));
    }
}
