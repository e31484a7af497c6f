import java.util.ArrayList;
import java.util.List;

/** All that can be asked of an object, so that two can be held against each other; some 320 calls. */
final class Whole {
    private Whole() {
    }

    static List<String> told(WeatherDisguise x) {
        List<String> all = new ArrayList<>();
        addCity(all, x);
        for (int what : new int[] {4, 5, 6}) {
            all.add("many(" + what + ") = " + x.many(what));
        }
        for (int i = 0; i < 10; i++) {
            all.add("row(" + i + ", ..) = " + x.row(i, 0) + " " + x.row(i, 1) + " " + x.row(i, 2));
        }
        for (int i = 0; i < 12; i++) {
            all.add("trace(" + i + ") = " + x.trace(i));
        }
        for (int i = 0; i < 4; i++) {
            addSheet(all, x, i);
            for (int as = 0; as < 14; as = as == 5 ? 10 : as + 1) {
                all.add("taken(" + i + ", " + as + ") = " + x.taken(i, as));
            }
        }
        return all;
    }

    /** What city() makes of THE TAPE, and then again() of what is kept. */
    static List<String> keptAndTape(WeatherDisguise x) {
        List<String> all = new ArrayList<>();
        all.add("city() = " + x.city());
        addCity(all, x);
        all.add("again() = " + x.again());
        addCity(all, x);
        return all;
    }

    private static void addCity(List<String> all, WeatherDisguise x) {
        for (int law = 0; law < 4; law++) {
            all.add("lawOf(" + law + ") = " + x.lawOf(law));
        }
        all.add("state(0) = " + x.state(0));
        all.add("state(1) = " + x.state(1));
        all.add("many(0) = " + x.many(0));
        int z = x.seed(0);
        x.seed(z);
        all.add("z = " + z);
        for (int house = 0; house < 16; house++) {
            all.add("house(" + house + ", 0) = " + x.house(house, 0));
        }
        for (int air = 0; air < 8; air++) {
            for (int what = 0; what < 4; what++) {
                all.add("of(" + air + ", " + what + ") = " + x.of(air, what));
            }
        }
    }

    private static void addSheet(List<String> all, WeatherDisguise x, int sheet) {
        for (int sort = 0; sort < 4; sort++) {
            int first = x.item(sheet, sort, 0);
            all.add("item(" + sheet + ", " + sort + ", 0) = " + first);
            for (int i = 1; i < 40 && first != -11 && first != -13; i++) {
                all.add("item(" + sheet + ", " + sort + ", " + i + ") = " + x.item(sheet, sort, i));
            }
        }
    }
}
