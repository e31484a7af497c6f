/** Sentences that name a boundary of SHEETS: Terms, promises 35 to 38. */
public final class EdgesOfSheetsTest {
    private static final int TERMS = Sentences.TERMS;
    private static final int LEAST_INT = Integer.MIN_VALUE, MOST_INT = Integer.MAX_VALUE;
    private static Sentences s;

    public static void main(String[] args) {
        all(new Sentences("EdgesOfSheetsTest"));
        s.end();
    }

    static void all(Sentences sentences) {
        s = sentences;
        s.says(TERMS, "SHEETS 0 to 3 are", EdgesOfSheetsTest::fourSheets);
        s.says(TERMS, "rows of bytes (sort 0), shorts (1), ints (2) or longs (3),", EdgesOfSheetsTest::sorts);
        s.says(TERMS, "40 at most,", EdgesOfSheetsTest::fortyAtMost);
        s.says(TERMS, "or missing (at first).", EdgesOfSheetsTest::missingAtFirst);
        minds();
        sheets();
        items();
    }

    private static void minds() {
        s.says(35, "n numbers (0 to 8) of a SHEET taken for bytes,", EdgesOfSheetsTest::noneToEight);
        s.says(35, "from i on, become FORCE of AIRS from one on", EdgesOfSheetsTest::fromIOnFromOneOn);
        s.says(35, "(held to 0 to 9): n.", EdgesOfSheetsTest::heldTo0To9);
        s.says(35, "BAD: no such SHEET, one, n,", EdgesOfSheetsTest::mindsBad);
        s.says(35, "or n goes beyond the last one;", EdgesOfSheetsTest::beyondTheLastOne);
        s.says(35, "-11;", EdgesOfSheetsTest::mindsMissing);
        s.says(35, "-13;", EdgesOfSheetsTest::mindsOfAnotherSort);
        s.says(35, "-12: i is not 0 to how many items there are (also for n 0),", EdgesOfSheetsTest::mindsOutside);
        s.says(35, "or there are not so many.", EdgesOfSheetsTest::notSoMany);
    }

    private static void sheets() {
        s.says(36, "A SHEET becomes a row of n of a sort, all 0,", EdgesOfSheetsTest::becomesARow);
        s.says(36, "or missing (sort -1; n counts nothing then): 1.", EdgesOfSheetsTest::becomesMissing);
        s.says(36, "BAD: no such SHEET, sort, n above 40;", EdgesOfSheetsTest::sheetBad);
        s.says(36, "-14.", EdgesOfSheetsTest::sizeBelow0);
        s.says(37, "Item i becomes v, narrowed to its sort: 1.", EdgesOfSheetsTest::narrowed);
        s.says(37, "BAD: no such SHEET;", () -> s.bad("put(sheet, 0, 0)", Worlds::two, (x, v) -> x.put(v, 0, 0), -1, 4,
            LEAST_INT, MOST_INT));
        s.says(37, "-11;", EdgesOfSheetsTest::putMissing);
        s.says(37, "-12.", EdgesOfSheetsTest::putOutside);
    }

    private static void items() {
        s.says(38, "Item i, taken for a sort (0 to 3;", EdgesOfSheetsTest::takenForASort);
        s.says(38, "of longs the lowest 32 bits).", EdgesOfSheetsTest::lowest32Bits);
        s.says(38, "BAD: no such SHEET, sort;", EdgesOfSheetsTest::itemBad);
        s.says(38, "-11;", EdgesOfSheetsTest::itemMissing);
        s.says(38, "-13;", EdgesOfSheetsTest::itemOfAnotherSort);
        s.says(38, "-12.", EdgesOfSheetsTest::itemOutside);
        s.says(38, "(An item may be as low as these, too.)", EdgesOfSheetsTest::asLowAsThese);
    }

    private static void fourSheets() {
        WeatherDisguise x = new WeatherDisguise();
        for (int sheet = 0; sheet < 4; sheet++) {
            s.due("sheet(" + sheet + ", 2, 3)", x.sheet(sheet, 2, 3), 1);
            s.due("put()", x.put(sheet, 1, 70 + sheet), 1);
        }
        for (int sheet = 0; sheet < 4; sheet++) {
            s.due("item(" + sheet + ", 2, 1)", x.item(sheet, 2, 1), 70 + sheet);
        }
        s.within("sheet(sheet, 0, 4)", Worlds::two, 0, 3, (y, v) -> y.sheet(v, 0, 4));
        s.bad("put(sheet, 0, 1)", Worlds::two, (y, v) -> y.put(v, 0, 1), -1, 4);
        s.bad("item(sheet, 0, 0)", Worlds::two, (y, v) -> y.item(v, 0, 0), -1, 4);
    }

    private static void sorts() {
        for (int sort = 0; sort < 4; sort++) {
            WeatherDisguise x = new WeatherDisguise();
            s.due("sheet(0, " + sort + ", 1)", x.sheet(0, sort, 1), 1);
            for (int as = 0; as < 4; as++) {
                s.due("item(0, " + as + ", 0)", x.item(0, as, 0), as == sort ? 0 : -13);
            }
        }
        s.within("sheet(1, sort, 1)", Worlds::two, -1, 3, (x, v) -> x.sheet(1, v, 1));
    }

    private static void fortyAtMost() {
        for (int sort = 0; sort < 4; sort++) {
            WeatherDisguise x = new WeatherDisguise();
            s.due("sheet(0, " + sort + ", 40)", x.sheet(0, sort, 40), 1);
            s.due("put(0, 39, 7)", x.put(0, 39, 7), 1);
            s.due("put(0, 40, 7)", x.put(0, 40, 7), -12);
            s.due("item(0, .., 39)", x.item(0, sort, 39), 7);
            s.due("item(0, .., 40)", x.item(0, sort, 40), -12);
            int one = sort;
            s.bad("sheet(0, " + sort + ", n)", Worlds::two, (y, v) -> y.sheet(0, one, v), 41, MOST_INT);
        }
    }

    private static void missingAtFirst() {
        for (int sheet = 0; sheet < 4; sheet++) {
            WeatherDisguise x = new WeatherDisguise();
            for (int sort = 0; sort < 4; sort++) {
                s.due("item(" + sheet + ", " + sort + ", 0)", x.item(sheet, sort, 0), -11);
            }
            s.due("put(" + sheet + ", 0, 0)", x.put(sheet, 0, 0), -11);
        }
    }

    /** Eight AIRS of FORCE 5, and eight bytes 1, 2, .. 8. */
    private static WeatherDisguise eight() {
        WeatherDisguise x = new WeatherDisguise();
        x.sheet(0, 0, 8);
        for (int i = 0; i < 8; i++) {
            x.air(i % 6, 5, 0, 0);
            x.put(0, i, i + 1);
        }
        x.sheet(1, 1, 8);
        x.sheet(2, 0, 0);
        return x;
    }

    private static void forces(WeatherDisguise x, int... forces) {
        for (int i = 0; i < forces.length; i++) {
            s.due("of(" + i + ", 1)", x.of(i, 1), forces[i]);
        }
    }

    private static void noneToEight() {
        WeatherDisguise x = eight();
        s.due("minds(0, 0, 0, 0)", x.minds(0, 0, 0, 0), 0);
        forces(x, 5, 5, 5, 5, 5, 5, 5, 5);
        s.due("minds(0, 0, 0, 1)", x.minds(0, 0, 0, 1), 1);
        forces(x, 1, 5, 5, 5, 5, 5, 5, 5);
        s.due("minds(0, 0, 0, 7)", x.minds(0, 0, 0, 7), 7);
        forces(x, 1, 2, 3, 4, 5, 6, 7, 5);
        s.due("minds(0, 0, 0, 8)", x.minds(0, 0, 0, 8), 8);
        forces(x, 1, 2, 3, 4, 5, 6, 7, 8);
        s.within("minds(0, 0, 0, n)", EdgesOfSheetsTest::eight, 0, 8, (y, v) -> y.minds(0, 0, 0, v));
        s.due("minds(2, 0, 7, 0) of no bytes", x.minds(2, 0, 7, 0), 0);
    }

    private static void fromIOnFromOneOn() {
        WeatherDisguise x = eight();
        s.due("minds(0, 7, 0, 1)", x.minds(0, 7, 0, 1), 1);
        forces(x, 8, 5, 5, 5, 5, 5, 5, 5);
        s.due("minds(0, 0, 7, 1)", x.minds(0, 0, 7, 1), 1);
        forces(x, 8, 5, 5, 5, 5, 5, 5, 1);
        s.due("minds(0, 5, 3, 3)", x.minds(0, 5, 3, 3), 3);
        forces(x, 8, 5, 5, 6, 7, 8, 5, 1);
        s.due("minds(0, 8, 0, 0)", x.minds(0, 8, 0, 0), 0);
        forces(x, 8, 5, 5, 6, 7, 8, 5, 1);
        for (int i = 0; i < 8; i++) {
            s.due("KIND stays", x.of(i, 0), i % 6);
        }
    }

    private static void heldTo0To9() {
        int[] bytes = {-128, -1, 0, 1, 8, 9, 10, 127};
        WeatherDisguise x = eight();
        for (int i = 0; i < 8; i++) {
            x.put(0, i, bytes[i]);
        }
        s.due("minds(0, 0, 0, 8)", x.minds(0, 0, 0, 8), 8);
        forces(x, 0, 0, 0, 1, 8, 9, 9, 9);
        x.put(0, 0, 255);
        x.put(0, 1, 265);
        x.put(0, 2, 128);
        s.due("minds(0, 0, 0, 3)", x.minds(0, 0, 0, 3), 3);
        forces(x, 0, 9, 0, 1, 8, 9, 9, 9);
    }

    private static void mindsBad() {
        s.bad("minds(sheet, 0, 0, 1)", EdgesOfSheetsTest::eight, (x, v) -> x.minds(v, 0, 0, 1), -1, 4, LEAST_INT, MOST_INT);
        s.within("minds(0, 0, air, 0)", Worlds::two, 0, 1, (x, v) -> x.minds(0, 0, v, 0));
        s.within("minds(0, 0, air, 1)", EdgesOfSheetsTest::eight, 0, 7, (x, v) -> x.minds(0, 0, v, 1));
        s.within("minds(0, 0, 0, n)", EdgesOfSheetsTest::eight, 0, 8, (x, v) -> x.minds(0, 0, 0, v));
        s.bad("minds(0, 0, air, 0) without AIRS", Worlds::fresh, (x, v) -> x.minds(0, 0, v, 0), 0);
        s.bad("minds(0, 0, 7, n)", EdgesOfSheetsTest::eight, (x, v) -> x.minds(0, 0, 7, v), -1, LEAST_INT, MOST_INT);
    }

    private static void beyondTheLastOne() {
        s.within("minds(0, 0, 0, n) of two", Worlds::two, 0, 2, (x, v) -> x.minds(0, 0, 0, v));
        s.within("minds(0, 0, 1, n) of two", Worlds::two, 0, 1, (x, v) -> x.minds(0, 0, 1, v));
        for (int air = 0; air < 8; air++) {
            int one = air;
            s.within("minds(0, 0, " + air + ", n)", EdgesOfSheetsTest::eight, 0, 8 - air, (x, v) -> x.minds(0, 0, one, v));
        }
    }

    private static void mindsMissing() {
        s.refused("minds(3, 0, 0, 1)", -11, EdgesOfSheetsTest::eight, x -> x.minds(3, 0, 0, 1));
        s.refused("minds(3, 0, 0, 0)", -11, EdgesOfSheetsTest::eight, x -> x.minds(3, 0, 0, 0));
        s.refused("minds(3, -1, 7, 1)", -11, EdgesOfSheetsTest::eight, x -> x.minds(3, -1, 7, 1));
        s.bad("minds(3, 0, 7, n), missing, too", EdgesOfSheetsTest::eight, (x, v) -> x.minds(3, 0, 7, v), -1, 2, 9);
    }

    private static void mindsOfAnotherSort() {
        for (int sort = 1; sort < 4; sort++) {
            int one = sort;
            for (int n : new int[] {0, 1, 8}) {
                s.refused("minds(1, 0, 0, " + n + ") of sort " + sort, -13, () -> {
                    WeatherDisguise x = eight();
                    x.sheet(1, one, 8);
                    return x;
                }, x -> x.minds(1, 0, 0, n));
            }
        }
        s.refused("minds(1, 9, 0, 1), outside, too", -13, EdgesOfSheetsTest::eight, x -> x.minds(1, 9, 0, 1));
        s.bad("minds(1, 0, 7, n), of another sort, too", EdgesOfSheetsTest::eight, (x, v) -> x.minds(1, 0, 7, v), -1, 2, 9);
    }

    private static void mindsOutside() {
        for (int i : new int[] {-1, 9, 10, LEAST_INT, MOST_INT}) {
            for (int n : new int[] {0, 1, 8}) {
                s.refused("minds(0, " + i + ", 0, " + n + ")", -12, EdgesOfSheetsTest::eight, x -> x.minds(0, i, 0, n));
            }
        }
        s.refused("minds(2, 1, 0, 0) of no bytes", -12, EdgesOfSheetsTest::eight, x -> x.minds(2, 1, 0, 0));
        s.refused("minds(2, -1, 0, 0) of no bytes", -12, EdgesOfSheetsTest::eight, x -> x.minds(2, -1, 0, 0));
        s.due("minds(2, 0, 0, 0) of no bytes", eight().minds(2, 0, 0, 0), 0);
        s.due("minds(0, 8, 0, 0)", eight().minds(0, 8, 0, 0), 0);
        s.due("minds(0, 0, 0, 0)", eight().minds(0, 0, 0, 0), 0);
        s.bad("minds(0, 9, 7, n), outside, too", EdgesOfSheetsTest::eight, (x, v) -> x.minds(0, 9, 7, v), -1, 2, 9);
    }

    private static void notSoMany() {
        for (int i = 0; i <= 8; i++) {
            int from = i;
            for (int n = 0; n <= 8; n++) {
                int many = n;
                if (i + n <= 8) {
                    s.due("minds(0, " + i + ", 0, " + n + ")", eight().minds(0, i, 0, n), n);
                } else if (i + n <= 10) {
                    s.refused("minds(0, " + i + ", 0, " + n + ")", -12, EdgesOfSheetsTest::eight,
                        x -> x.minds(0, from, 0, many));
                }
            }
        }
        s.refused("minds(2, 0, 0, 1) of no bytes", -12, EdgesOfSheetsTest::eight, x -> x.minds(2, 0, 0, 1));
    }

    private static void becomesARow() {
        for (int sort = 0; sort < 4; sort++) {
            for (int n : new int[] {0, 1, 39, 40}) {
                WeatherDisguise x = new WeatherDisguise();
                x.sheet(0, sort, 40);
                for (int i = 0; i < 40; i++) {
                    x.put(0, i, 9);
                }
                s.due("sheet(0, " + sort + ", " + n + ")", x.sheet(0, sort, n), 1);
                for (int i = 0; i < n; i++) {
                    s.due("item(0, .., " + i + ")", x.item(0, sort, i), 0);
                }
                s.due("item(0, .., n)", x.item(0, sort, n), -12);
                s.due("sheet(0, .., 40) once more", x.sheet(0, (sort + 1) % 4, 40), 1);
                for (int i = 0; i < 40; i++) {
                    s.due("item(0, .., " + i + ") then", x.item(0, (sort + 1) % 4, i), 0);
                }
            }
        }
    }

    private static void becomesMissing() {
        for (int n : new int[] {LEAST_INT, -1, 0, 1, 40, 41, MOST_INT}) {
            WeatherDisguise x = Worlds.two();
            s.due("sheet(0, -1, " + n + ")", x.sheet(0, -1, n), 1);
            s.due("item(0, 0, 0)", x.item(0, 0, 0), -11);
            s.due("sheet(0, -1, " + n + ") of what is missing", x.sheet(0, -1, n), 1);
            s.due("item(0, 0, 0)", x.item(0, 0, 0), -11);
            s.due("item(1, 1, 39) of another", x.item(1, 1, 39), 1234);
        }
    }

    private static void sheetBad() {
        s.within("sheet(sheet, 0, 1)", Worlds::two, 0, 3, (x, v) -> x.sheet(v, 0, 1));
        s.within("sheet(sheet, -1, 1)", Worlds::two, 0, 3, (x, v) -> x.sheet(v, -1, 1));
        s.within("sheet(1, sort, 1)", Worlds::two, -1, 3, (x, v) -> x.sheet(1, v, 1));
        s.bad("sheet(1, 0, n)", Worlds::two, (x, v) -> x.sheet(1, 0, v), 41, MOST_INT);
        s.bad("sheet(sheet, 0, -1)", Worlds::two, (x, v) -> x.sheet(v, 0, -1), -1, 4);
        s.bad("sheet(0, sort, -1)", Worlds::two, (x, v) -> x.sheet(0, v, -1), -2, 4);
    }

    private static void sizeBelow0() {
        for (int sort = 0; sort < 4; sort++) {
            int one = sort;
            for (int n : new int[] {-1, -2, -40, LEAST_INT}) {
                s.refused("sheet(0, " + sort + ", " + n + ")", -14, Worlds::two, x -> x.sheet(0, one, n));
                s.refused("sheet(3, " + sort + ", " + n + "), missing", -14, Worlds::two, x -> x.sheet(3, one, n));
            }
            s.due("sheet(0, " + sort + ", 0)", Worlds.two().sheet(0, sort, 0), 1);
        }
    }

    private static void narrowed() {
        int[] values = {0, 1, -1, 127, 128, -128, -129, 255, 256, 32767, 32768, -32768, -32769, 65535, 65536,
            16777216, MOST_INT, LEAST_INT};
        int[] bytes = {0, 1, -1, 127, -128, -128, 127, -1, 0, -1, 0, 0, -1, -1, 0, 0, -1, 0};
        int[] shorts = {0, 1, -1, 127, 128, -128, -129, 255, 256, 32767, -32768, -32768, 32767, -1, 0, 0, -1, 0};
        int[][] due = {bytes, shorts, values, values};
        for (int sort = 0; sort < 4; sort++) {
            WeatherDisguise x = new WeatherDisguise();
            x.sheet(sort, sort, 40);
            for (int i = 0; i < values.length; i++) {
                s.due("put(" + sort + ", 39, " + values[i] + ")", x.put(sort, 39, values[i]), 1);
                s.due("item(" + sort + ", .., 39)", x.item(sort, sort, 39), due[sort][i]);
                s.due("put(" + sort + ", 0, " + values[i] + ")", x.put(sort, 0, values[i]), 1);
                s.due("item(" + sort + ", .., 0)", x.item(sort, sort, 0), due[sort][i]);
            }
            s.due("item(" + sort + ", .., 1)", x.item(sort, sort, 1), 0);
            s.due("item(" + sort + ", .., 38)", x.item(sort, sort, 38), 0);
        }
    }

    private static void putMissing() {
        for (int i : new int[] {-1, 0, 40, MOST_INT}) {
            s.refused("put(3, " + i + ", 1)", -11, Worlds::two, x -> x.put(3, i, 1));
            s.refused("put(0, " + i + ", 1) at first", -11, Worlds::fresh, x -> x.put(0, i, 1));
        }
    }

    private static void putOutside() {
        for (int i : new int[] {-1, 4, 5, 40, LEAST_INT, MOST_INT}) {
            s.refused("put(0, " + i + ", 1) of four", -12, Worlds::two, x -> x.put(0, i, 1));
        }
        for (int i : new int[] {-1, 40, 41}) {
            s.refused("put(1, " + i + ", 1) of forty", -12, Worlds::two, x -> x.put(1, i, 1));
        }
        for (int i : new int[] {-1, 0, 1}) {
            s.refused("put(2, " + i + ", 1) of none", -12, Worlds::two, x -> x.put(2, i, 1));
        }
        s.due("put(0, 0, 1)", Worlds.two().put(0, 0, 1), 1);
        s.due("put(0, 3, 1)", Worlds.two().put(0, 3, 1), 1);
        s.due("put(1, 39, 1)", Worlds.two().put(1, 39, 1), 1);
    }

    private static void takenForASort() {
        for (int sort = 0; sort < 4; sort++) {
            WeatherDisguise x = new WeatherDisguise();
            x.sheet(3, sort, 2);
            x.put(3, 0, 100);
            x.put(3, 1, -100);
            s.due("item(3, " + sort + ", 0)", x.item(3, sort, 0), 100);
            s.due("item(3, " + sort + ", 1)", x.item(3, sort, 1), -100);
        }
        s.bad("item(0, sort, 0)", Worlds::two, (x, v) -> x.item(0, v, 0), -1, 4);
    }

    private static void lowest32Bits() {
        WeatherDisguise x = new WeatherDisguise();
        x.sheet(0, 3, 1);
        for (int v : new int[] {MOST_INT, LEAST_INT, -1, 0}) {
            x.put(0, 0, v);
            s.due("item(0, 3, 0)", x.item(0, 3, 0), v);
        }
    }

    private static void itemBad() {
        s.bad("item(sheet, 0, 0)", Worlds::two, (x, v) -> x.item(v, 0, 0), -1, 4, LEAST_INT, MOST_INT);
        s.bad("item(0, sort, 0)", Worlds::two, (x, v) -> x.item(0, v, 0), -1, 4, LEAST_INT, MOST_INT);
        s.bad("item(3, sort, 0), missing, too", Worlds::two, (x, v) -> x.item(3, v, 0), -1, 4);
        s.bad("item(0, sort, 9), outside, too", Worlds::two, (x, v) -> x.item(0, v, 9), -1, 4);
        s.due("item(0, 0, 0)", Worlds.two().item(0, 0, 0), 7);
        s.due("item(3, 3, 0), missing", Worlds.two().item(3, 3, 0), -11);
    }

    private static void itemMissing() {
        for (int sort = 0; sort < 4; sort++) {
            int one = sort;
            s.refused("item(3, " + sort + ", 0)", -11, Worlds::two, x -> x.item(3, one, 0));
            s.refused("item(3, " + sort + ", -1)", -11, Worlds::two, x -> x.item(3, one, -1));
            s.refused("item(3, " + sort + ", 40)", -11, Worlds::two, x -> x.item(3, one, 40));
        }
    }

    private static void itemOfAnotherSort() {
        int[] sorts = {0, 1, 3};
        for (int sheet = 0; sheet < 3; sheet++) {
            for (int as = 0; as < 4; as++) {
                int one = sheet;
                int other = as;
                if (as != sorts[sheet]) {
                    s.refused("item(" + sheet + ", " + as + ", 0)", -13, Worlds::two, x -> x.item(one, other, 0));
                    s.refused("item(" + sheet + ", " + as + ", 99)", -13, Worlds::two, x -> x.item(one, other, 99));
                    s.refused("item(" + sheet + ", " + as + ", -1)", -13, Worlds::two, x -> x.item(one, other, -1));
                }
            }
        }
    }

    private static void itemOutside() {
        for (int i : new int[] {-1, 4, 5, 40, LEAST_INT, MOST_INT}) {
            s.refused("item(0, 0, " + i + ") of four", -12, Worlds::two, x -> x.item(0, 0, i));
        }
        for (int i : new int[] {-1, 40, 41}) {
            s.refused("item(1, 1, " + i + ") of forty", -12, Worlds::two, x -> x.item(1, 1, i));
        }
        for (int i : new int[] {-1, 0, 1}) {
            s.refused("item(2, 3, " + i + ") of none", -12, Worlds::two, x -> x.item(2, 3, i));
        }
        s.due("item(0, 0, 3)", Worlds.two().item(0, 0, 3), -2);
        s.due("item(1, 1, 39)", Worlds.two().item(1, 1, 39), 1234);
    }

    private static void asLowAsThese() {
        for (int sort = 0; sort < 4; sort++) {
            WeatherDisguise x = new WeatherDisguise();
            x.sheet(0, sort, 1);
            for (int low : new int[] {-1, -11, -12, -13}) {
                s.due("put(0, 0, " + low + ")", x.put(0, 0, low), 1);
                s.due("item(0, " + sort + ", 0)", x.item(0, sort, 0), low);
            }
        }
    }
}
