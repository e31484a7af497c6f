import java.util.List;

/** Sentences that name a boundary of cities kept: promises 44 and 45. */
public final class EdgesOfKeptTest {
    private static final int AIR = 0, FOG = 2, HEAT = 5;
    private static Sentences s;

    public static void main(String[] args) {
        all(new Sentences("EdgesOfKeptTest"));
        s.end();
    }

    static void all(Sentences sentences) {
        s = sentences;
        s.says(44, "All but THE TAPE,", EdgesOfKeptTest::notTheTape);
        s.says(44, "ROWS,", EdgesOfKeptTest::notRows);
        s.says(44, "SHEETS,", EdgesOfKeptTest::notSheets);
        s.says(44, "SHELVES,", EdgesOfKeptTest::notShelves);
        s.says(44, "THE TRACE", EdgesOfKeptTest::notTheTrace);
        s.says(44, "is kept: 1.", EdgesOfKeptTest::allIsKept);
        s.says(45, "It becomes what was kept latest", EdgesOfKeptTest::latest);
        s.says(45, "(which stays):", EdgesOfKeptTest::whichStays);
        s.says(45, "how many AIRS.", EdgesOfKeptTest::howManyAirs);
        s.says(45, "NONE: nothing is kept.", EdgesOfKeptTest::nothingIsKept);
    }

    /** Changes all that is kept. */
    private static void spoil(WeatherDisguise x) {
        for (int law = 0; law < 4; law++) {
            x.set(law, 9 - x.lawOf(law) % 9);
        }
        x.steps(3);
        x.blow((x.state(1) + 1) % 4);
        x.seed(x.seed(0) + 1);
        for (int house = 0; house < 16; house++) {
            x.pour(house, (x.house(house, 0) + 1) % 100);
        }
        for (int air = 0; air < x.many(0); air++) {
            x.mind(air, (x.of(air, 0) + 1) % 6, (x.of(air, 1) + 1) % 10);
            x.send(air, (x.of(air, 2) + 1) % 16);
            x.bring(air, (x.of(air, 3) + 1) % 16);
        }
        x.air(FOG, 1, 2, 3);
    }

    private static void notTheTape() {
        WeatherDisguise x = new WeatherDisguise();
        x.feed(32, 1);
        x.keep();
        Texts.feed(x, "heat at 7;");
        s.due("again()", x.again(), 0);
        s.due("many(5)", x.many(5), 11);
        s.due("city()", x.city(), 1);
        s.due("of(0, 3)", x.of(0, 3), 7);
        Texts.feed(x, "heat");
        x.keep();
        x.city();
        x.again();
        s.due("many(5), it was used up", x.many(5), 0);
    }

    private static void notRows() {
        WeatherDisguise x = new WeatherDisguise();
        x.air(HEAT, 0, 0, 3);
        x.prove(0, 2);
        x.keep();
        x.prove(0, 10);
        x.alterRow(9, 0, 77);
        x.again();
        s.due("many(4)", x.many(4), 10);
        s.due("row(9, 0)", x.row(9, 0), 77);
        x.city();
        x.again();
        s.due("many(4), there were none", x.many(4), 0);
    }

    private static void notSheets() {
        WeatherDisguise x = new WeatherDisguise();
        x.sheet(0, 0, 3);
        x.sheet(2, 1, 4);
        x.keep();
        x.sheet(0, -1, 0);
        x.sheet(1, 2, 5);
        x.put(1, 4, 77);
        x.put(2, 3, 66);
        x.again();
        s.due("item(0, 0, 0), missing", x.item(0, 0, 0), -11);
        s.due("item(1, 2, 4)", x.item(1, 2, 4), 77);
        s.due("item(2, 1, 3)", x.item(2, 1, 3), 66);
    }

    private static void notShelves() {
        WeatherDisguise x = new WeatherDisguise();
        x.air(HEAT, 0, 0, 3);
        x.sheet(0, 0, 3);
        x.shelf(0, 0, 0);
        x.shelf(1, 1, 0);
        x.keep();
        x.shelf(0, 2, 0);
        x.shelf(1, 0, 0);
        x.shelf(2, 1, 0);
        x.again();
        s.due("taken(0, 5), nothing", x.taken(0, 5), -11);
        s.due("taken(1, 5), one of the AIRS", x.taken(1, 5), 0);
        s.due("taken(2, 10), a row", x.taken(2, 10), 3);
    }

    private static void notTheTrace() {
        WeatherDisguise x = new WeatherDisguise();
        x.air(FOG, 1, 0, 3);
        x.shelf(0, 0, 0);
        x.act(0, 3, 5);
        x.keep();
        x.act(0, 0, 5);
        x.again();
        s.due("many(6)", x.many(6), 2);
        s.due("trace(0)", x.trace(0), 30);
        x.act(1, 0, 5);
        x.again();
        s.due("many(6), there is none", x.many(6), 0);
    }

    private static void allIsKept() {
        WeatherDisguise x = Worlds.eight();
        x.mind(7, FOG, 1);
        x.bring(0, 9);
        s.due("keep()", x.keep(), 1);
        s.due("keep() once more", x.keep(), 1);
        List<String> before = Whole.told(x);
        WeatherDisguise y = Worlds.eight();
        y.mind(7, FOG, 1);
        y.bring(0, 9);
        y.keep();
        spoil(y);
        s.due("again()", y.again(), 8);
        s.same("all that was kept", Whole.told(y), before);
        s.due("keep() of a new object", new WeatherDisguise().keep(), 1);
    }

    private static void latest() {
        WeatherDisguise x = new WeatherDisguise();
        x.air(AIR, 1, 2, 3);
        x.keep();
        x.bring(0, 7);
        x.air(FOG, 1, 2, 3);
        x.keep();
        spoil(x);
        s.due("again()", x.again(), 2);
        s.due("of(0, 3)", x.of(0, 3), 7);
        s.due("of(2, 0)", x.of(2, 0), -1);
        s.due("one more", x.air(HEAT, 0, 0, 0), 2);
        WeatherDisguise y = new WeatherDisguise();
        y.air(AIR, 1, 2, 3);
        y.keep();
        y.city();
        y.keep();
        y.air(HEAT, 1, 2, 4);
        s.due("again() of no AIRS, where some were kept before", y.again(), 0);
        s.due("of(0, 0)", y.of(0, 0), -1);
    }

    private static void whichStays() {
        WeatherDisguise x = Worlds.two();
        x.keep();
        List<String> before = Whole.told(Worlds.two());
        for (int i = 0; i < 3; i++) {
            s.due("again()", x.again(), 2);
            spoil(x);
        }
        s.due("again()", x.again(), 2);
        s.same("all as it was kept", Whole.told(x), before);
        WeatherDisguise y = Worlds.two();
        s.due("city()", y.city(), 1);
        s.due("again() behind city()", y.again(), 2);
        s.due("city() of 'air'", Texts.city(y, "air"), -103);
        s.due("again() behind a FAULT", y.again(), 2);
        s.due("state(0) as it was kept", y.state(0), 0);
    }

    private static void howManyAirs() {
        for (int n = 0; n <= 8; n++) {
            WeatherDisguise x = new WeatherDisguise();
            for (int i = 0; i < n; i++) {
                x.air(i % 6, i, i, 15 - i);
            }
            x.keep();
            for (int i = n; i < 8; i++) {
                x.air(0, 0, 0, 0);
            }
            s.due("again()", x.again(), n);
            s.due("many(0)", x.many(0), n);
            s.due("one more", x.air(1, 2, 3, 4), n < 8 ? n : -2);
        }
    }

    private static void nothingIsKept() {
        s.refused("again() of a new object", -3, Worlds::fresh, x -> x.again());
        WeatherDisguise x = new WeatherDisguise();
        x.air(HEAT, 1, 2, 3);
        x.city();
        x.steps(9);
        s.due("again(), nothing was kept", x.again(), -3);
        s.due("state(0)", x.state(0), 9);
        x.keep();
        s.due("again(), a city is kept", x.again(), 0);
    }
}
