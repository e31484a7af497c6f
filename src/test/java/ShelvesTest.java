/** Promises 39 to 42: SHELVES, ACTS and THE TRACE. */
public final class ShelvesTest {
    private static final Check CHECK = new Check("ShelvesTest");

    public static void main(String[] args) {
        held();
        heldRefused();
        takenByKinds();
        takenRows();
        rowsThatStay();
        airsThatGo();
        actsOfAir();
        actsOfRain();
        actsOfFog();
        actsOfDrizzle();
        actsOfMist();
        actsOfHeat();
        wrapping();
        partedByNothing();
        noAct();
        CHECK.end();
    }

    private static void held() {
        WeatherDisguise x = new WeatherDisguise();
        x.air(0, 1, 2, 3);
        x.air(4, 1, 2, 3);
        x.sheet(2, 1, 7);
        for (int shelf = 0; shelf < 4; shelf++) {
            CHECK.due("39: shelf(" + shelf + ", 0, 1)", x.shelf(shelf, 0, 1), 1);
            CHECK.due("40: taken(" + shelf + ", 0)", x.taken(shelf, 0), 1);
            CHECK.due("39: shelf(" + shelf + ", 1, 2)", x.shelf(shelf, 1, 2), 1);
            CHECK.due("40: taken(" + shelf + ", 11)", x.taken(shelf, 11), 7);
            CHECK.due("39: shelf(" + shelf + ", 2, 99)", x.shelf(shelf, 2, 99), 1);
            CHECK.due("40: taken(" + shelf + ", 0), nothing", x.taken(shelf, 0), -11);
            CHECK.due("39: shelf(" + shelf + ", 0, 0)", x.shelf(shelf, 0, 0), 1);
            CHECK.due("40: taken(" + shelf + ", 0)", x.taken(shelf, 0), 0);
            CHECK.due("39: shelf(" + shelf + ", 1, 0), missing", x.shelf(shelf, 1, 0), 1);
            CHECK.due("40: taken(" + shelf + ", 0), missing", x.taken(shelf, 0), -11);
            CHECK.due("40: taken(" + shelf + ", 10), missing", x.taken(shelf, 10), -11);
        }
    }

    private static void heldRefused() {
        WeatherDisguise x = new WeatherDisguise();
        x.air(0, 1, 2, 3);
        x.shelf(0, 0, 0);
        CHECK.due("39: shelf(4, 0, 0)", x.shelf(4, 0, 0), -1);
        CHECK.due("39: shelf(-1, 0, 0)", x.shelf(-1, 0, 0), -1);
        CHECK.due("39: shelf(0, 3, 0)", x.shelf(0, 3, 0), -1);
        CHECK.due("39: shelf(0, -1, 0)", x.shelf(0, -1, 0), -1);
        CHECK.due("39: shelf(0, 0, 1)", x.shelf(0, 0, 1), -1);
        CHECK.due("39: shelf(0, 0, -1)", x.shelf(0, 0, -1), -1);
        CHECK.due("39: shelf(0, 1, 4)", x.shelf(0, 1, 4), -1);
        CHECK.due("39: shelf(0, 1, -1)", x.shelf(0, 1, -1), -1);
        CHECK.due("39: shelf(4, 2, 0)", x.shelf(4, 2, 0), -1);
        CHECK.due("40: taken(0, 0) behind what is refused", x.taken(0, 0), 0);
        CHECK.due("40: taken(4, 0)", x.taken(4, 0), -1);
        CHECK.due("40: taken(-1, 0)", x.taken(-1, 0), -1);
        CHECK.due("40: taken(0, 6)", x.taken(0, 6), -1);
        CHECK.due("40: taken(0, 9)", x.taken(0, 9), -1);
        CHECK.due("40: taken(0, 14)", x.taken(0, 14), -1);
        CHECK.due("40: taken(0, -1)", x.taken(0, -1), -1);
        CHECK.due("40: taken(1, 6), nothing", x.taken(1, 6), -1);
        CHECK.due("40: taken(1, 13), nothing", x.taken(1, 13), -11);
    }

    private static void takenByKinds() {
        String[] under = {"0", "01", "02", "013", "024", "05"};
        WeatherDisguise x = new WeatherDisguise();
        x.air(0, 0, 0, 0);
        x.air(0, 0, 0, 0);
        x.shelf(3, 0, 1);
        for (int kind = 0; kind < 6; kind++) {
            x.mind(1, kind, 0);
            for (int as = 0; as < 6; as++) {
                int want = under[kind].indexOf('0' + as) >= 0 ? 1 : -13;
                CHECK.due("40: taken(3, " + as + ") of KIND " + kind, x.taken(3, as), want);
            }
            for (int as = 10; as < 14; as++) {
                CHECK.due("40: taken(3, " + as + ") of KIND " + kind, x.taken(3, as), -13);
            }
        }
    }

    private static void takenRows() {
        WeatherDisguise x = new WeatherDisguise();
        for (int sort = 0; sort < 4; sort++) {
            x.sheet(sort, sort, 10 * sort);
            x.shelf(0, 1, sort);
            for (int as = 0; as < 4; as++) {
                CHECK.due("40: taken(0, 1" + as + ") of sort " + sort, x.taken(0, as + 10), as == sort ? 10 * sort : -13);
                CHECK.due("40: taken(0, " + as + ") of sort " + sort, x.taken(0, as), -13);
            }
        }
    }

    /** A SHELF holds the row that a SHEET was; the SHEET becomes another one. */
    private static void rowsThatStay() {
        WeatherDisguise x = new WeatherDisguise();
        x.shelf(1, 1, 0);
        x.sheet(0, 2, 5);
        CHECK.due("39: what was missing is nothing", x.taken(1, 12), -11);
        x.shelf(0, 1, 0);
        x.sheet(0, 0, 9);
        CHECK.due("39: the row stays", x.taken(0, 12), 5);
        CHECK.due("39: the row stays", x.taken(0, 10), -13);
        x.sheet(0, -1, 0);
        CHECK.due("39: the row stays", x.taken(0, 12), 5);
    }

    private static void airsThatGo() {
        WeatherDisguise x = new WeatherDisguise();
        x.keep();
        x.air(0, 5, 0, 0);
        x.air(5, 5, 0, 0);
        x.shelf(2, 0, 1);
        CHECK.due("40: taken(2, 5)", x.taken(2, 5), 1);
        x.again();
        CHECK.due("40: taken(2, 5), there is no such one", x.taken(2, 5), -11);
        CHECK.due("41: act(2, 0, 1), there is no such one", x.act(2, 0, 1), 0);
        x.air(0, 5, 0, 0);
        CHECK.due("40: taken(2, 0), there is no such one", x.taken(2, 0), -11);
        x.air(3, 5, 0, 0);
        CHECK.due("40: taken(2, 3), there is such a one again", x.taken(2, 3), 1);
        CHECK.due("41: act(2, 0, 1), there is such a one again", x.act(2, 0, 1), 11);
    }

    /** An object with one of a KIND as number n with a FORCE on SHELF 0. */
    private static WeatherDisguise thing(int kind, int n, int force) {
        WeatherDisguise x = new WeatherDisguise();
        for (int i = 0; i < n; i++) {
            x.air(0, 0, 0, 0);
        }
        x.air(kind, force, 0, 0);
        x.shelf(0, 0, n);
        return x;
    }

    private static void acts(WeatherDisguise x, int act, int number, int want, int... bodies) {
        CHECK.due("41: act(0, " + act + ", " + number + ")", x.act(0, act, number), want);
        CHECK.due("43: many(6)", x.many(6), bodies.length);
        for (int i = 0; i < bodies.length; i++) {
            CHECK.due("42: trace(" + i + ")", x.trace(i), bodies[i]);
        }
        CHECK.due("42: trace(" + bodies.length + ")", x.trace(bodies.length), -3);
        CHECK.due("42: trace(-1)", x.trace(-1), -3);
    }

    private static void actsOfAir() {
        WeatherDisguise x = thing(0, 2, 5);
        acts(x, 0, 10, 92, 10);
        acts(x, 1, 10, 77, 11, 10);
        acts(x, 2, 10, 3, 12);
        acts(x, 2, -10, -3, 12);
        acts(x, 3, 10, 77 ^ 130, 13, 11, 10);
    }

    private static void actsOfRain() {
        WeatherDisguise x = thing(1, 3, 1);
        acts(x, 0, 4, 39, 10);
        acts(x, 1, 4, 38, 20, 11, 10);
        acts(x, 2, 5, -2, 12);
        acts(x, 3, 4, 38 ^ 130, 13, 20, 11, 10);
    }

    private static void actsOfFog() {
        WeatherDisguise x = thing(2, 4, 7);
        acts(x, 0, 6, -58, 30, 10);
        acts(x, 1, 6, -79, 11, 30, 10);
        acts(x, 2, 7, 2, 12);
        acts(x, 3, 6, (-79 ^ 130) - 1, 31, 13, 11, 30, 10, 12);
    }

    private static void actsOfDrizzle() {
        WeatherDisguise x = thing(3, 1, 4);
        acts(x, 0, 2, 20, 51, 10);
        acts(x, 1, 2, 10, 20, 11, 51, 10);
        acts(x, 2, 12, 4, 50, 12);
        acts(x, 2, -1, -2, 50, 12);
        acts(x, 3, 2, 10 ^ 130, 13, 20, 11, 51, 10);
    }

    private static void actsOfMist() {
        WeatherDisguise x = thing(4, 2, 8);
        acts(x, 0, 3, -23, 40, 30, 10);
        int drips = (-23 - 24) ^ (0 - 74 + 6);
        acts(x, 1, 3, drips, 41, 11, 40, 30, 10, 40, 30, 10);
        acts(x, 2, 13, 2, 12);
        acts(x, 3, 3, (drips ^ 130) - 2 / 6, 31, 13, 41, 11, 40, 30, 10, 40, 30, 10, 12);
    }

    private static void actsOfHeat() {
        WeatherDisguise x = thing(5, 6, 9);
        acts(x, 0, 1, 15, 10);
        acts(x, 1, 1, -12, 11, 10);
        acts(x, 2, 7, 2 + 60, 61, 12, 10);
        acts(x, 3, 1, (-12 ^ 130) * 3, 60, 13, 11, 10);
    }

    private static void wrapping() {
        WeatherDisguise x = thing(0, 1, 0);
        acts(x, 2, Integer.MIN_VALUE, Integer.MIN_VALUE, 12);
        acts(x, 2, Integer.MAX_VALUE, -Integer.MAX_VALUE, 12);
        acts(x, 0, Integer.MAX_VALUE, Integer.MAX_VALUE * 9 + 1, 10);
        acts(x, 0, Integer.MIN_VALUE, Integer.MIN_VALUE + 1, 10);
        WeatherDisguise y = thing(3, 0, 1);
        acts(y, 2, Integer.MIN_VALUE, Integer.MAX_VALUE * 2, 50, 12);
    }

    private static void partedByNothing() {
        acts(thing(0, 3, 3), 2, 9, -15, 12);
        acts(thing(1, 0, 0), 2, 9, -15, 12);
        acts(thing(3, 3, 3), 2, 9, -15, 50, 12);
        acts(thing(5, 2, 2), 2, 9, -15, 61, 12);
        acts(thing(2, 3, 3), 3, 1, -15, 31, 13, 11, 30, 10, 12);
        acts(thing(4, 1, 1), 3, 1, -15, 31, 13, 41, 11, 40, 30, 10, 40, 30, 10, 12);
        WeatherDisguise x = thing(2, 3, 3);
        acts(x, 2, 9, -15, 12);
        acts(x, 0, 1, -12, 30, 10);
        acts(thing(0, 3, 3), 3, 1, (12 - 9) ^ 130, 13, 11, 10);
    }

    private static void noAct() {
        WeatherDisguise x = thing(0, 2, 5);
        x.sheet(0, 2, 5);
        x.shelf(2, 1, 0);
        int[] shelves = {4, -1, 0, 0, 1, 2};
        int[] acts = {0, 0, 4, -1, 0, 0};
        for (int i = 0; i < shelves.length; i++) {
            acts(x, 0, 10, 92, 10);
            CHECK.due("41: act(" + shelves[i] + ", " + acts[i] + ", 10)", x.act(shelves[i], acts[i], 10), 0);
            CHECK.due("41: no TRACE then", x.many(6), 0);
            CHECK.due("41: no TRACE then", x.trace(0), -3);
        }
        acts(x, 0, 10, 92, 10);
        x.steps(1);
        x.taken(0, 3);
        x.keep();
        x.again();
        CHECK.due("42: THE TRACE is that of the latest act()", x.trace(0), 10);
        CHECK.due("42: trace(most int)", x.trace(Integer.MAX_VALUE), -3);
        CHECK.due("42: trace(least int)", x.trace(Integer.MIN_VALUE), -3);
    }
}
