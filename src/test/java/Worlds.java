/** Objects that have been set up, for tests of what is asked of them; none takes more than 60 calls. */
final class Worlds {
    private Worlds() {
    }

    static WeatherDisguise fresh() {
        return new WeatherDisguise();
    }

    /** Two AIRS (drizzle, rain), and something of all else. */
    static WeatherDisguise two() {
        WeatherDisguise x = new WeatherDisguise();
        x.air(3, 4, 10, 0);
        x.air(1, 6, 3, 9);
        return lively(x);
    }

    /** Eight AIRS, as many as there may be, and something of all else. */
    static WeatherDisguise eight() {
        WeatherDisguise x = new WeatherDisguise();
        for (int i = 0; i < 8; i++) {
            x.air((i + 3) % 6, 9 - i, 15 - i, 2 * i);
        }
        return lively(x);
    }

    /** SHEETS: four bytes, 40 shorts, no longs, missing. SHELVES: AIR 1, a row of shorts, a row of longs, nothing. */
    private static WeatherDisguise lively(WeatherDisguise x) {
        int[] laws = {4, 7, 3, 50};
        for (int law = 0; law < 4; law++) {
            x.set(law, laws[law]);
        }
        x.pour(7, 55);
        x.seed(77);
        x.keep();
        x.sheet(0, 0, 4);
        x.put(0, 0, 7);
        x.put(0, 3, -2);
        x.sheet(1, 1, 40);
        x.put(1, 39, 1234);
        x.sheet(2, 3, 0);
        x.shelf(0, 0, 1);
        x.shelf(1, 1, 1);
        x.shelf(2, 1, 2);
        x.steps(5);
        x.blow(2);
        x.pour(3, 99);
        x.seed(-5);
        x.prove(1, 9);
        x.alterRow(8, 2, -4);
        x.act(0, 3, 5);
        Texts.feed(x, "wind 2; heat at 3;");
        return x;
    }
}
