/** Promises 35 to 38: SHEETS, and FORCE told by them. */
public final class SheetsTest {
    private static final Check CHECK = new Check("SheetsTest");

    public static void main(String[] args) {
        made();
        narrowed();
        items();
        forces();
        forcesRefused();
        forcesOutside();
        CHECK.end();
    }

    private static void made() {
        WeatherDisguise x = new WeatherDisguise();
        CHECK.due("36: sheet(0, 0, 40)", x.sheet(0, 0, 40), 1);
        CHECK.due("38: item(0, 0, 39)", x.item(0, 0, 39), 0);
        CHECK.due("38: item(0, 0, 40)", x.item(0, 0, 40), -12);
        CHECK.due("36: sheet(0, 0, 41)", x.sheet(0, 0, 41), -1);
        CHECK.due("36: sheet(0, 0, -1)", x.sheet(0, 0, -1), -14);
        CHECK.due("36: sheet(0, 0, least int)", x.sheet(0, 0, Integer.MIN_VALUE), -14);
        CHECK.due("36: sheet(0, 4, 1)", x.sheet(0, 4, 1), -1);
        CHECK.due("36: sheet(0, -2, 1)", x.sheet(0, -2, 1), -1);
        CHECK.due("36: sheet(4, 0, 1)", x.sheet(4, 0, 1), -1);
        CHECK.due("36: sheet(-1, 0, 1)", x.sheet(-1, 0, 1), -1);
        CHECK.due("36: sheet(4, 0, -1)", x.sheet(4, 0, -1), -1);
        CHECK.due("36: sheet(0, 4, -1)", x.sheet(0, 4, -1), -1);
        CHECK.due("36: sheet(4, -1, 0)", x.sheet(4, -1, 0), -1);
        CHECK.due("38: item(0, 0, 39) behind what is refused", x.item(0, 0, 39), 0);
        x.put(0, 2, 5);
        CHECK.due("36: sheet(0, 0, 3)", x.sheet(0, 0, 3), 1);
        CHECK.due("36: all 0", x.item(0, 0, 2), 0);
        CHECK.due("36: three of them", x.item(0, 0, 3), -12);
        CHECK.due("36: sheet(0, 2, 0)", x.sheet(0, 2, 0), 1);
        CHECK.due("38: item(0, 2, 0)", x.item(0, 2, 0), -12);
        CHECK.due("36: sheet(0, -1, 41)", x.sheet(0, -1, 41), 1);
        CHECK.due("38: item(0, 2, 0), missing", x.item(0, 2, 0), -11);
        CHECK.due("36: sheet(0, -1, -1), missing already", x.sheet(0, -1, -1), 1);
        CHECK.due("37: put(0, 0, 1), missing", x.put(0, 0, 1), -11);
        CHECK.due("36: sheet(3, 1, 1)", x.sheet(3, 1, 1), 1);
        CHECK.due("38: item(3, 1, 0)", x.item(3, 1, 0), 0);
    }

    private static void narrowed() {
        WeatherDisguise x = new WeatherDisguise();
        int[] values = {0, 1, -1, 127, 128, -129, 255, 256, 32767, 32768, -32769, 65536, 16777215,
            Integer.MAX_VALUE, Integer.MIN_VALUE};
        for (int sort = 0; sort < 4; sort++) {
            x.sheet(sort, sort, 15);
            for (int i = 0; i < values.length; i++) {
                CHECK.due("37: put(" + sort + ", " + i + ", " + values[i] + ")", x.put(sort, i, values[i]), 1);
            }
            for (int i = 0; i < values.length; i++) {
                int want = sort == 0 ? (byte) values[i] : sort == 1 ? (short) values[i] : values[i];
                CHECK.due("38: item(" + sort + ", " + sort + ", " + i + ")", x.item(sort, sort, i), want);
            }
        }
        CHECK.due("37: 200 as a byte", x.put(0, 0, 200), 1);
        CHECK.due("38: 200 as a byte", x.item(0, 0, 0), -56);
        CHECK.due("37: 40000 as a short", x.put(1, 0, 40000), 1);
        CHECK.due("38: 40000 as a short", x.item(1, 1, 0), -25536);
    }

    private static void items() {
        WeatherDisguise x = new WeatherDisguise();
        for (int sort = 0; sort < 4; sort++) {
            x.sheet(1, sort, 2);
            x.put(1, 1, 9);
            for (int as = 0; as < 4; as++) {
                CHECK.due("38: item(1, " + as + ", 1) of sort " + sort, x.item(1, as, 1), as == sort ? 9 : -13);
            }
            CHECK.due("38: another sort and outside", x.item(1, (sort + 1) % 4, 5), -13);
        }
        CHECK.due("38: item(1, 3, 2)", x.item(1, 3, 2), -12);
        CHECK.due("38: item(1, 3, -1)", x.item(1, 3, -1), -12);
        CHECK.due("38: item(1, 4, 0)", x.item(1, 4, 0), -1);
        CHECK.due("38: item(1, -1, 0)", x.item(1, -1, 0), -1);
        CHECK.due("38: item(4, 3, 0)", x.item(4, 3, 0), -1);
        CHECK.due("38: item(-1, 3, 0)", x.item(-1, 3, 0), -1);
        CHECK.due("38: item(2, 4, 0), missing", x.item(2, 4, 0), -1);
        CHECK.due("38: item(2, 0, 99), missing", x.item(2, 0, 99), -11);
        CHECK.due("37: put(1, 2, 1)", x.put(1, 2, 1), -12);
        CHECK.due("37: put(1, -1, 1)", x.put(1, -1, 1), -12);
        CHECK.due("37: put(4, 0, 1)", x.put(4, 0, 1), -1);
        CHECK.due("37: put(-1, 0, 1)", x.put(-1, 0, 1), -1);
        CHECK.due("37: put(2, 99, 1), missing", x.put(2, 99, 1), -11);
    }

    private static WeatherDisguise threeAirs() {
        WeatherDisguise x = new WeatherDisguise();
        x.air(0, 4, 0, 0);
        x.air(1, 4, 0, 0);
        x.air(5, 4, 0, 0);
        x.sheet(0, 0, 5);
        int[] items = {7, -3, 100, 9, 10};
        for (int i = 0; i < items.length; i++) {
            x.put(0, i, items[i]);
        }
        return x;
    }

    private static void forcesAre(WeatherDisguise x, int first, int second, int third) {
        CHECK.due("35: FORCE of 0", x.of(0, 1), first);
        CHECK.due("35: FORCE of 1", x.of(1, 1), second);
        CHECK.due("35: FORCE of 2", x.of(2, 1), third);
    }

    private static void forces() {
        WeatherDisguise x = threeAirs();
        CHECK.due("35: minds(0, 0, 0, 3)", x.minds(0, 0, 0, 3), 3);
        forcesAre(x, 7, 0, 9);
        CHECK.due("35: minds(0, 3, 1, 2)", x.minds(0, 3, 1, 2), 2);
        forcesAre(x, 7, 9, 9);
        CHECK.due("35: minds(0, 1, 2, 1)", x.minds(0, 1, 2, 1), 1);
        forcesAre(x, 7, 9, 0);
        CHECK.due("35: minds(0, 5, 2, 0)", x.minds(0, 5, 2, 0), 0);
        CHECK.due("35: minds(0, 0, 2, 0)", x.minds(0, 0, 2, 0), 0);
        forcesAre(x, 7, 9, 0);
        CHECK.due("35: its KIND stays", x.of(1, 0), 1);
        for (int i = 3; i < 8; i++) {
            x.air(0, 0, 0, 0);
        }
        x.sheet(0, 0, 8);
        x.put(0, 7, 6);
        CHECK.due("35: minds(0, 0, 0, 8)", x.minds(0, 0, 0, 8), 8);
        CHECK.due("35: FORCE of 7", x.of(7, 1), 6);
        forcesAre(x, 0, 0, 0);
    }

    private static void forcesRefused() {
        WeatherDisguise x = threeAirs();
        CHECK.due("35: minds(4, 0, 0, 1)", x.minds(4, 0, 0, 1), -1);
        CHECK.due("35: minds(-1, 0, 0, 1)", x.minds(-1, 0, 0, 1), -1);
        CHECK.due("35: minds(0, 0, 3, 0)", x.minds(0, 0, 3, 0), -1);
        CHECK.due("35: minds(0, 0, -1, 1)", x.minds(0, 0, -1, 1), -1);
        CHECK.due("35: minds(0, 0, 0, 9)", x.minds(0, 0, 0, 9), -1);
        CHECK.due("35: minds(0, 0, 0, -1)", x.minds(0, 0, 0, -1), -1);
        CHECK.due("35: minds(0, 3, 1, -1)", x.minds(0, 3, 1, -1), -1);
        CHECK.due("35: minds(0, 0, 0, 4)", x.minds(0, 0, 0, 4), -1);
        CHECK.due("35: minds(0, 0, 2, 2)", x.minds(0, 0, 2, 2), -1);
        CHECK.due("35: minds(1, 0, 2, 2), missing", x.minds(1, 0, 2, 2), -1);
        CHECK.due("35: minds(1, 0, 0, 1), missing", x.minds(1, 0, 0, 1), -11);
        CHECK.due("35: minds(1, 0, 0, 0), missing", x.minds(1, 0, 0, 0), -11);
        CHECK.due("35: minds(0, 9, 2, 2), BAD and outside", x.minds(0, 9, 2, 2), -1);
        for (int sort = 1; sort < 4; sort++) {
            x.sheet(1, sort, 5);
            CHECK.due("35: minds(1, 0, 0, 1) of sort " + sort, x.minds(1, 0, 0, 1), -13);
            CHECK.due("35: minds(1, 9, 0, 1) of sort " + sort, x.minds(1, 9, 0, 1), -13);
            CHECK.due("35: minds(1, 0, 0, 4) of sort " + sort, x.minds(1, 0, 0, 4), -1);
        }
        forcesAre(x, 4, 4, 4);
    }

    private static void forcesOutside() {
        WeatherDisguise x = threeAirs();
        CHECK.due("35: minds(0, 6, 0, 0)", x.minds(0, 6, 0, 0), -12);
        CHECK.due("35: minds(0, -1, 0, 0)", x.minds(0, -1, 0, 0), -12);
        CHECK.due("35: minds(0, 3, 0, 3)", x.minds(0, 3, 0, 3), -12);
        CHECK.due("35: minds(0, 5, 0, 1)", x.minds(0, 5, 0, 1), -12);
        CHECK.due("35: minds(0, most int, 0, 1)", x.minds(0, Integer.MAX_VALUE, 0, 1), -12);
        CHECK.due("35: minds(0, least int, 0, 1)", x.minds(0, Integer.MIN_VALUE, 0, 1), -12);
        CHECK.due("35: minds(0, -1, 0, 3)", x.minds(0, -1, 0, 3), -12);
        forcesAre(x, 4, 4, 4);
    }
}
