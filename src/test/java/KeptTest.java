/** Promises 44 and 45: cities kept. */
public final class KeptTest {
    private static final Check CHECK = new Check("KeptTest");

    public static void main(String[] args) {
        nothingKept();
        allIsKept();
        theLatestIsKept();
        whatIsNotKept();
        keptBehindCity();
        CHECK.end();
    }

    private static void nothingKept() {
        WeatherDisguise x = new WeatherDisguise();
        x.air(0, 0, 0, 0);
        CHECK.due("45: again(), nothing is kept", x.again(), -3);
        CHECK.due("45: many(0) behind what is refused", x.many(0), 1);
        WeatherDisguise y = new WeatherDisguise();
        CHECK.due("44: keep()", y.keep(), 1);
        CHECK.due("45: again(), a city without AIRS is kept", y.again(), 0);
    }

    private static void setUp(WeatherDisguise x) {
        x.air(4, 7, 3, 6);
        x.air(5, 2, 1, 9);
        for (int law = 0; law < 4; law++) {
            x.set(law, 4 + law);
        }
        x.steps(5);
        x.blow(2);
        x.pour(15, 44);
        x.seed(-77);
    }

    private static void spoil(WeatherDisguise x) {
        x.mind(0, 1, 1);
        x.mind(1, 2, 1);
        x.air(0, 0, 0, 0);
        x.send(0, 11);
        x.send(1, 12);
        for (int law = 0; law < 4; law++) {
            x.set(law, 9 - law);
        }
        for (int house = 0; house < 16; house++) {
            x.pour(house, 70 + house);
        }
        x.bring(0, 1);
        x.bring(1, 2);
        x.steps(2);
        x.blow(3);
        x.seed(123);
    }

    private static void same(WeatherDisguise x, WeatherDisguise y) {
        for (int what = 0; what < 6; what++) {
            CHECK.due("45: state(" + what + ")", x.state(what), y.state(what));
            CHECK.due("45: of(0, " + what + ")", x.of(0, what), y.of(0, what));
            CHECK.due("45: of(1, " + what + ")", x.of(1, what), y.of(1, what));
            CHECK.due("45: lawOf(" + what + ")", x.lawOf(what), y.lawOf(what));
        }
        for (int house = 0; house < 16; house++) {
            CHECK.due("45: house(" + house + ", 0)", x.house(house, 0), y.house(house, 0));
            CHECK.due("45: house(" + house + ", 1)", x.house(house, 1), y.house(house, 1));
        }
        CHECK.due("45: of(2, 0)", x.of(2, 0), -1);
        CHECK.due("45: z", x.seed(-77), -77);
    }

    private static void allIsKept() {
        WeatherDisguise x = new WeatherDisguise();
        WeatherDisguise y = new WeatherDisguise();
        setUp(x);
        setUp(y);
        CHECK.due("44: keep()", x.keep(), 1);
        same(x, y);
        spoil(x);
        CHECK.due("45: again()", x.again(), 2);
        same(x, y);
        spoil(x);
        CHECK.due("45: again(), it stays", x.again(), 2);
        same(x, y);
    }

    private static void theLatestIsKept() {
        WeatherDisguise x = new WeatherDisguise();
        x.air(0, 1, 2, 3);
        x.keep();
        x.bring(0, 7);
        x.keep();
        x.bring(0, 9);
        x.air(0, 1, 2, 3);
        CHECK.due("45: again()", x.again(), 1);
        CHECK.due("45: AT as it was kept latest", x.of(0, 3), 7);
        CHECK.due("45: it becomes what was kept: one more", x.air(0, 1, 2, 3), 1);
    }

    private static void whatIsNotKept() {
        WeatherDisguise x = new WeatherDisguise();
        x.air(0, 1, 2, 3);
        x.sheet(0, 0, 3);
        x.shelf(0, 1, 0);
        x.shelf(1, 0, 0);
        x.act(1, 0, 1);
        x.prove(0, 3);
        x.feed(1, 1);
        x.keep();
        x.sheet(0, 1, 4);
        x.put(0, 3, 8);
        x.sheet(1, 2, 2);
        x.shelf(0, 1, 1);
        x.act(1, 1, 1);
        x.prove(0, 5);
        x.feed(1, 2);
        x.again();
        CHECK.due("44: SHEETS are not kept", x.item(0, 1, 3), 8);
        CHECK.due("44: SHELVES are not kept", x.taken(0, 12), 2);
        CHECK.due("44: THE TRACE is not kept", x.trace(0), 11);
        CHECK.due("44: ROWS are not kept", x.many(4), 5);
        CHECK.due("44: THE TAPE is not kept", x.many(5), 3);
    }

    private static void keptBehindCity() {
        WeatherDisguise x = new WeatherDisguise();
        x.air(5, 1, 2, 3);
        x.seed(6);
        x.keep();
        x.seed(8);
        CHECK.due("3: city()", Texts.city(x, "fog at 1;fog at 2;"), 2);
        CHECK.due("45: again() behind city()", x.again(), 1);
        CHECK.due("45: its KIND", x.of(0, 0), 5);
        CHECK.due("45: z as it was kept", x.seed(0), 6);
    }
}
