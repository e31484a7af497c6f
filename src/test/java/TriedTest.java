/** Promises 19 to 28: what is TRIED, and the DRY WAY. */
public final class TriedTest {
    private static final Check CHECK = new Check("TriedTest");

    public static void main(String[] args) {
        where();
        stops();
        meets();
        told();
        off();
        windFor();
        kindFor();
        seen();
        dryWay();
        fits();
        fitsByNumbers();
        nothingChanges();
        CHECK.end();
    }

    /** Once round the city in 12 STEPS. */
    private static void where() {
        WeatherDisguise x = new WeatherDisguise();
        x.air(0, 3, 0, 0);
        int[] round = {0, 1, 2, 3, 7, 11, 15, 14, 13, 12, 8, 4};
        for (int n = 0; n <= 60; n++) {
            CHECK.due("19: where(0, " + n + ")", x.where(0, n), round[n % 12]);
        }
        CHECK.due("19: where(0, 61)", x.where(0, 61), -1);
        CHECK.due("19: where(0, -1)", x.where(0, -1), -1);
        CHECK.due("19: where(1, 0)", x.where(1, 0), -1);
        CHECK.due("19: where(-1, 0)", x.where(-1, 0), -1);
        x.steps(4);
        CHECK.due("19: where(0, 0) behind 4 STEPS", x.where(0, 0), 7);
        CHECK.due("19: where(0, 2) behind 4 STEPS", x.where(0, 2), 15);
    }

    private static void stops() {
        WeatherDisguise x = new WeatherDisguise();
        x.air(0, 3, 0, 0);
        int[] behind = {0, 1, 2, 3, 11, -3, -3, 4, 10, -3, -3, 5, 9, 8, 7, 6};
        for (int errand = 0; errand < 16; errand++) {
            x.send(0, errand);
            CHECK.due("20: stops(0) with ERRAND " + errand, x.stops(0), behind[errand]);
        }
        CHECK.due("20: stops(1)", x.stops(1), -1);
        CHECK.due("20: stops(-1)", x.stops(-1), -1);
        WeatherDisguise late = new WeatherDisguise();
        late.steps(35);
        late.set(0, 9);
        late.blow(3);
        late.air(2, 0, 11, 15);
        CHECK.due("20: as late as it may be", late.stops(0), 50);
    }

    private static void meets() {
        WeatherDisguise x = new WeatherDisguise();
        x.air(0, 3, 0, 0);
        x.air(5, 3, 0, 0);
        x.air(3, 3, 0, 2);
        int[] behind = {0, 1, 2, 3, 11, -3, -3, 4, 10, -3, -3, 5, 9, 8, 7, 6};
        for (int house = 0; house < 16; house++) {
            x.bring(1, house);
            CHECK.due("21: meets(0, 1) AT " + house, x.meets(0, 1), behind[house]);
            CHECK.due("21: meets(1, 0) AT " + house, x.meets(1, 0), behind[house]);
        }
        CHECK.due("21: meets(0, 2)", x.meets(0, 2), 1);
        CHECK.due("21: meets(2, 1)", x.meets(2, 1), -3);
        CHECK.due("21: meets(0, 0)", x.meets(0, 0), -1);
        CHECK.due("21: meets(0, 3)", x.meets(0, 3), -1);
        CHECK.due("21: meets(3, 0)", x.meets(3, 0), -1);
        CHECK.due("21: meets(-1, 0)", x.meets(-1, 0), -1);
        CHECK.due("21: meets(0, -1)", x.meets(0, -1), -1);
        CHECK.due("21: meets(3, 3)", x.meets(3, 3), -1);
        WeatherDisguise late = new WeatherDisguise();
        late.steps(15);
        late.set(0, 9);
        late.blow(3);
        late.air(4, 0, 7, 15);
        late.air(2, 0, 0, 14);
        CHECK.due("21: as late as it may be", late.meets(0, 1), 51);
    }

    private static void told() {
        WeatherDisguise x = new WeatherDisguise();
        x.air(0, 3, 15, 5);
        CHECK.due("22: told of air", x.told(0), -3);
        x.mind(0, 1, 2);
        CHECK.due("22: told of rain that goes", x.told(0), -3);
        x.mind(0, 1, 1);
        CHECK.due("22: told of rain that stays", x.told(0), 1);
        x.mind(0, 2, 1);
        CHECK.due("22: told of fog", x.told(0), 2);
        x.mind(0, 5, 1);
        CHECK.due("22: told of heat", x.told(0), 1);
        x.mind(0, 3, 1);
        CHECK.due("22: told of drizzle", x.told(0), 3);
        x.mind(0, 4, 1);
        CHECK.due("22: told of mist", x.told(0), 3);
        x.send(0, 4);
        CHECK.due("22: told of mist with another ERRAND", x.told(0), 2);
        x.mind(0, 5, 1);
        x.bring(0, 3);
        CHECK.due("22: told of heat where air stays for a while", x.told(0), 4);
        x.set(0, 9);
        CHECK.due("22: told of heat where air stays for longer", x.told(0), 10);
        CHECK.due("22: told(1)", x.told(1), -1);
        CHECK.due("22: told(-1)", x.told(-1), -1);
        CHECK.due("22: its KIND is as it was", x.of(0, 0), 5);
        WeatherDisguise y = new WeatherDisguise();
        y.steps(1);
        y.set(0, 9);
        y.blow(2);
        y.air(5, 0, 0, 0);
        CHECK.due("22: told of heat as late as it may be", y.told(0), 18);
    }

    private static void off() {
        WeatherDisguise x = new WeatherDisguise();
        x.air(0, 3, 15, 0);
        int[] apart = {6, 5, 4, 3, 2, 1, 0, 1, 2, 3, 4, 5};
        for (int n = 0; n <= 60; n++) {
            CHECK.due("23: off(0, " + n + ")", x.off(0, n), apart[n % 12]);
        }
        x.send(0, 6);
        CHECK.due("23: columns and rows together", x.off(0, 0), 3);
        CHECK.due("23: columns and rows together", x.off(0, 9), 4);
        CHECK.due("23: off(0, 61)", x.off(0, 61), -1);
        CHECK.due("23: off(0, -1)", x.off(0, -1), -1);
        CHECK.due("23: off(1, 0)", x.off(1, 0), -1);
        CHECK.due("23: off(-1, 0)", x.off(-1, 0), -1);
    }

    private static void windFor() {
        WeatherDisguise x = new WeatherDisguise();
        x.air(0, 3, 6, 5);
        int[] errands = {6, 9, 4, 1, 5, 0, 15, 12, 3};
        int[] best = {0, 1, 2, 3, 0, 2, 0, 1, 0};
        for (int i = 0; i < errands.length; i++) {
            x.send(0, errands[i]);
            CHECK.due("24: windFor(0, 1) with ERRAND " + errands[i], x.windFor(0, 1), best[i]);
        }
        x.send(0, 15);
        x.bring(0, 0);
        CHECK.due("24: windFor(0, 6)", x.windFor(0, 6), 0);
        CHECK.due("24: windFor(0, 4)", x.windFor(0, 4), 0);
        x.send(0, 4);
        CHECK.due("24: windFor(0, 30)", x.windFor(0, 30), 2);
        x.mind(0, 5, 3);
        CHECK.due("24: windFor of heat", x.windFor(0, 30), 0);
        CHECK.due("24: windFor(0, 0)", x.windFor(0, 0), -1);
        CHECK.due("24: windFor(0, 31)", x.windFor(0, 31), -1);
        CHECK.due("24: windFor(1, 1)", x.windFor(1, 1), -1);
        CHECK.due("24: windFor(-1, 1)", x.windFor(-1, 1), -1);
    }

    private static void kindFor() {
        WeatherDisguise x = new WeatherDisguise();
        x.air(5, 1, 6, 5);
        CHECK.due("25: by the WIND", x.kindFor(0, 1), 0);
        x.send(0, 5);
        CHECK.due("25: rain of FORCE 1 stays", x.kindFor(0, 1), 1);
        x.mind(0, 5, 2);
        CHECK.due("25: rain of FORCE 2 goes, drizzle stays", x.kindFor(0, 1), 3);
        x.send(0, 1);
        CHECK.due("25: drizzle alone goes there", x.kindFor(0, 1), 3);
        x.blow(1);
        x.send(0, 1);
        CHECK.due("25: drizzle alone goes there", x.kindFor(0, 1), 3);
        x.send(0, 9);
        x.steps(1);
        x.bring(0, 5);
        CHECK.due("25: air by the WIND", x.kindFor(0, 1), 0);
        x.send(0, 15);
        CHECK.due("25: mist and drizzle are as near as air", x.kindFor(0, 1), 0);
        x.send(0, 10);
        CHECK.due("25: behind two STEPS drizzle is there", x.kindFor(0, 2), 3);
        x.send(0, 13);
        CHECK.due("25: fog", x.kindFor(0, 30), 3);
        CHECK.due("25: kindFor(0, 0)", x.kindFor(0, 0), -1);
        CHECK.due("25: kindFor(0, 31)", x.kindFor(0, 31), -1);
        CHECK.due("25: kindFor(1, 1)", x.kindFor(1, 1), -1);
        CHECK.due("25: kindFor(-1, 1)", x.kindFor(-1, 1), -1);
        CHECK.due("25: its KIND is as it was", x.of(0, 0), 5);
        WeatherDisguise y = new WeatherDisguise();
        y.air(0, 9, 1, 0);
        CHECK.due("25: fog is slower than air", y.kindFor(0, 2), 2);
    }

    private static void seen() {
        WeatherDisguise x = new WeatherDisguise();
        CHECK.due("26: seen(0) without AIRS", x.seen(0), 0);
        CHECK.due("26: seen(30) without AIRS", x.seen(30), 0);
        x.air(5, 0, 0, 3);
        CHECK.due("26: seen(30) of one", x.seen(30), 1);
        x.air(0, 0, 0, 0);
        CHECK.due("26: seen(0)", x.seen(0), 2);
        CHECK.due("26: seen(2)", x.seen(2), 2);
        CHECK.due("26: seen(3)", x.seen(3), 1);
        x.air(5, 0, 0, 5);
        x.air(5, 0, 0, 6);
        x.air(5, 0, 0, 9);
        x.air(5, 0, 0, 10);
        x.air(5, 0, 0, 12);
        x.air(5, 0, 0, 13);
        CHECK.due("26: seen(0) of eight", x.seen(0), 8);
        CHECK.due("26: seen(30) of eight", x.seen(30), 7);
        CHECK.due("26: seen(-1)", x.seen(-1), -1);
        CHECK.due("26: seen(31)", x.seen(31), -1);
        windowsThatTakeThought();
    }

    /** HOUSE 1 sees four of six, but is none of the two that see all. */
    private static void windowsThatTakeThought() {
        WeatherDisguise x = new WeatherDisguise();
        x.air(3, 0, 0, 1);
        x.air(3, 0, 1, 0);
        x.air(3, 0, 2, 1);
        x.air(3, 0, 1, 2);
        x.air(5, 0, 0, 0);
        x.air(5, 0, 0, 2);
        CHECK.due("26: seen(0)", x.seen(0), 3);
        CHECK.due("26: seen(1)", x.seen(1), 2);
        CHECK.due("26: seen(30)", x.seen(30), 2);
    }

    private static void dryWay() {
        WeatherDisguise x = new WeatherDisguise();
        for (int from = 0; from < 16; from++) {
            for (int to = 0; to < 16; to += 3) {
                int apart = Math.abs(from % 4 - to % 4) + Math.abs(from / 4 - to / 4);
                CHECK.due("27: dryWay(" + from + ", " + to + ")", x.dryWay(from, to), apart);
            }
        }
        int[] walls = {4, 5, 6, 9, 11};
        for (int wall : walls) {
            x.pour(wall, 6);
        }
        x.pour(0, 5);
        CHECK.due("27: dryWay(0, 3)", x.dryWay(0, 3), 3);
        CHECK.due("27: dryWay(0, 7)", x.dryWay(0, 7), 4);
        CHECK.due("27: dryWay(8, 10)", x.dryWay(8, 10), 4);
        CHECK.due("27: dryWay(0, 12)", x.dryWay(0, 12), -3);
        CHECK.due("27: dryWay(3, 4), which is next to it only in number", x.dryWay(3, 4), -3);
        CHECK.due("27: dryWay(4, 4)", x.dryWay(4, 4), -3);
        CHECK.due("27: dryWay(4, 0)", x.dryWay(4, 0), -3);
        CHECK.due("27: dryWay(0, 4)", x.dryWay(0, 4), -3);
        CHECK.due("27: dryWay(7, 8), which is next to it only in number", x.dryWay(7, 8), -3);
        CHECK.due("27: dryWay(8, 8)", x.dryWay(8, 8), 0);
        x.set(1, 7);
        CHECK.due("27: dryWay(0, 12) by DAMP 7", x.dryWay(0, 12), 3);
        x.set(1, 5);
        CHECK.due("27: dryWay(0, 3) by DAMP 5", x.dryWay(0, 3), -3);
        x.set(1, 0);
        CHECK.due("27: dryWay(8, 8) by DAMP 0", x.dryWay(8, 8), -3);
        CHECK.due("27: dryWay(16, 0)", x.dryWay(16, 0), -1);
        CHECK.due("27: dryWay(0, 16)", x.dryWay(0, 16), -1);
        CHECK.due("27: dryWay(-1, 0)", x.dryWay(-1, 0), -1);
        CHECK.due("27: dryWay(0, -1)", x.dryWay(0, -1), -1);
        aLongWay();
    }

    /** Along the rows, to and fro. */
    private static void aLongWay() {
        WeatherDisguise x = new WeatherDisguise();
        int[] walls = {4, 5, 6, 8 + 1, 8 + 2, 8 + 3};
        for (int wall : walls) {
            x.pour(wall, 99);
        }
        CHECK.due("27: there is no way", x.dryWay(0, 15), -3);
        WeatherDisguise y = new WeatherDisguise();
        int[] bent = {1, 9, 11, 3};
        for (int wall : bent) {
            y.pour(wall, 99);
        }
        CHECK.due("27: a bent way", y.dryWay(2, 8), 4);
        CHECK.due("27: a bent way", y.dryWay(2, 13), 4);
        WeatherDisguise z = new WeatherDisguise();
        int[] winding = {1, 5, 9, 7, 11, 15};
        for (int wall : winding) {
            z.pour(wall, 6);
        }
        CHECK.due("27: down and up again", z.dryWay(0, 3), 9);
    }

    private static void fits() {
        WeatherDisguise x = new WeatherDisguise();
        x.air(0, 3, 0, 0);
        CHECK.due("28: fits(0, 0, 0), missing", x.fits(0, 0, 0), -11);
        CHECK.due("28: fits(0, 0, 1), missing", x.fits(0, 0, 1), -11);
        CHECK.due("28: fits(4, 0, 0)", x.fits(4, 0, 0), -1);
        CHECK.due("28: fits(-1, 0, 0)", x.fits(-1, 0, 0), -1);
        CHECK.due("28: fits(0, 1, 0)", x.fits(0, 1, 0), -1);
        CHECK.due("28: fits(0, -1, 0)", x.fits(0, -1, 0), -1);
        CHECK.due("28: fits(0, 0, 2)", x.fits(0, 0, 2), -1);
        CHECK.due("28: fits(0, 0, -1)", x.fits(0, 0, -1), -1);
        x.sheet(0, 0, 0);
        CHECK.due("28: fits(0, 0, 0) of no numbers", x.fits(0, 0, 0), 16);
        CHECK.due("28: fits(0, 0, 1) of no numbers", x.fits(0, 0, 1), 0);
        x.sheet(0, 3, 1);
        CHECK.due("28: AT 0 behind a STEP by WIND 0", x.fits(0, 0, 0), 0);
        CHECK.due("28: AT 0 behind a STEP by WIND 0", x.fits(0, 0, 1), -3);
        x.put(0, 0, 7);
        CHECK.due("28: AT 7 behind a STEP", x.fits(0, 0, 0), 2);
        CHECK.due("28: AT 7 behind a STEP", x.fits(0, 0, 1), 6);
        x.put(0, 0, 6);
        CHECK.due("28: AT 6 behind a STEP", x.fits(0, 0, 0), 1);
        CHECK.due("28: AT 6 behind a STEP", x.fits(0, 0, 1), 5);
        x.put(0, 0, 16);
        CHECK.due("28: no HOUSE", x.fits(0, 0, 0), 0);
        x.put(0, 0, -2);
        CHECK.due("28: no HOUSE", x.fits(0, 0, 1), -3);
        x.put(0, 0, -1);
        CHECK.due("28: any HOUSE", x.fits(0, 0, 0), 16);
    }

    private static void fitsByNumbers() {
        WeatherDisguise x = new WeatherDisguise();
        x.air(5, 3, 0, 9);
        x.air(0, 3, 0, 9);
        x.air(3, 0, 10, 9);
        x.sheet(1, 0, 4);
        int[] places = {-1, -1, -1, 11};
        for (int i = 0; i < 4; i++) {
            x.put(1, i, places[i]);
        }
        CHECK.due("28: air AT 11 behind 4 STEPS", x.fits(1, 1, 0), 4);
        CHECK.due("28: air AT 11 behind 4 STEPS", x.fits(1, 1, 1), 4);
        CHECK.due("28: heat AT 11 behind 4 STEPS", x.fits(1, 0, 0), 1);
        CHECK.due("28: heat AT 11 behind 4 STEPS", x.fits(1, 0, 1), 11);
        CHECK.due("28: drizzle AT 11 behind 4 STEPS", x.fits(1, 2, 0), 0);
        x.put(1, 3, 10);
        CHECK.due("28: drizzle AT 10 behind 4 STEPS", x.fits(1, 2, 0), 16);
        CHECK.due("28: drizzle AT 10 behind 4 STEPS", x.fits(1, 2, 1), 0);
        x.put(1, 0, 6);
        CHECK.due("28: drizzle AT 6 behind one, too", x.fits(1, 2, 0), 3);
        CHECK.due("28: drizzle AT 6 behind one, too", x.fits(1, 2, 1), 2);
        x.sheet(2, 1, 40);
        for (int i = 0; i < 40; i++) {
            x.put(2, i, i == 39 ? 11 : -1);
        }
        CHECK.due("28: air AT 11 behind 40 STEPS", x.fits(2, 1, 0), 0);
        x.put(2, 39, 7);
        CHECK.due("28: air AT 7 behind 40 STEPS", x.fits(2, 1, 0), 16);
        x.steps(1);
        CHECK.due("28: drizzle is the same in STEP 1", x.fits(1, 2, 0), 3);
        CHECK.due("28: STEP matters", x.fits(2, 1, 0), 0);
        CHECK.due("28: AT stays", x.of(2, 3), 10);
    }

    private static void nothingChanges() {
        WeatherDisguise x = new WeatherDisguise();
        WeatherDisguise y = new WeatherDisguise();
        WeatherDisguise[] both = {x, y};
        for (WeatherDisguise one : both) {
            for (int i = 0; i < 6; i++) {
                one.air(i, i + 2, 14 - i, 2 * i);
            }
            one.steps(5);
            one.sheet(0, 2, 6);
            one.seed(99);
        }
        for (int i = 0; i < 6; i++) {
            x.where(i, 60);
            x.stops(i);
            x.meets(i, (i + 1) % 6);
            x.told(i);
            x.off(i, 60);
            x.windFor(i, 30);
            x.kindFor(i, 30);
            x.fits(0, i, i % 2);
            x.judge(i);
        }
        x.seen(30);
        x.dryWay(0, 15);
        x.blown(30);
        for (int i = 0; i < 6; i++) {
            CHECK.due("state(" + i + ") behind what is TRIED", x.state(i), y.state(i));
            for (int what = 0; what < 6; what++) {
                CHECK.due("of(" + i + ", " + what + ") behind what is TRIED", x.of(i, what), y.of(i, what));
            }
        }
        for (int house = 0; house < 16; house++) {
            CHECK.due("house(" + house + ", 0) behind what is TRIED", x.house(house, 0), y.house(house, 0));
        }
        CHECK.due("z behind what is TRIED", x.seed(1), 99);
    }
}
