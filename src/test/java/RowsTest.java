/** Promises 31 to 34: ROWS and THE READER. */
public final class RowsTest {
    private static final Check CHECK = new Check("RowsTest");

    public static void main(String[] args) {
        rows();
        altered();
        judged();
        wetByAllOfThem();
        refused();
        staying();
        CHECK.end();
    }

    private static void rows() {
        WeatherDisguise x = new WeatherDisguise();
        x.air(1, 4, 7, 0);
        x.pour(3, 97);
        CHECK.due("31: prove(0, 10)", x.prove(0, 10), 10);
        int[] houses = {1, 2, 3, 7, 11, 15, 14, 13, 12, 8};
        int[] wet = {5, 5, 99, 5, 5, 5, 5, 5, 5, 5};
        int[] off = {3, 2, 1, 0, 1, 2, 3, 4, 5, 4};
        for (int i = 0; i < 10; i++) {
            CHECK.due("32: row(" + i + ", 0)", x.row(i, 0), houses[i]);
            CHECK.due("32: row(" + i + ", 1)", x.row(i, 1), wet[i]);
            CHECK.due("32: row(" + i + ", 2)", x.row(i, 2), off[i]);
        }
        CHECK.due("32: row(10, 0)", x.row(10, 0), -9);
        CHECK.due("32: row(-1, 0)", x.row(-1, 0), -9);
        CHECK.due("32: row(0, 3)", x.row(0, 3), -9);
        CHECK.due("32: row(0, -1)", x.row(0, -1), -9);
        CHECK.due("31: AT stays", x.of(0, 3), 0);
        CHECK.due("31: WET stays", x.state(2), 97);
        CHECK.due("31: STEP stays", x.state(0), 0);
        CHECK.due("31: prove(0, 1)", x.prove(0, 1), 1);
        CHECK.due("32: row(1, 0)", x.row(1, 0), -9);
        CHECK.due("31: prove(0, 2)", x.prove(0, 2), 2);
        CHECK.due("43: many(4)", x.many(4), 2);
        CHECK.due("32: row(2, 0)", x.row(2, 0), -9);
        CHECK.due("32: row(1, 0)", x.row(1, 0), 2);
    }

    private static void altered() {
        WeatherDisguise x = new WeatherDisguise();
        x.air(0, 4, 7, 0);
        x.prove(0, 3);
        CHECK.due("33: alterRow(2, 0, 77)", x.alterRow(2, 0, 77), 3);
        CHECK.due("33: alterRow(2, 0, -9)", x.alterRow(2, 0, -9), 77);
        CHECK.due("32: row(2, 0)", x.row(2, 0), -9);
        CHECK.due("33: alterRow(2, 1, least int)", x.alterRow(2, 1, Integer.MIN_VALUE), 0);
        CHECK.due("33: alterRow(2, 2, 5)", x.alterRow(2, 2, 5), 1);
        CHECK.due("32: row(2, 1)", x.row(2, 1), Integer.MIN_VALUE);
        CHECK.due("32: row(2, 2)", x.row(2, 2), 5);
        CHECK.due("32: row(1, 0)", x.row(1, 0), 2);
        CHECK.due("33: alterRow(3, 0, 1)", x.alterRow(3, 0, 1), -9);
        CHECK.due("33: alterRow(-1, 0, 1)", x.alterRow(-1, 0, 1), -9);
        CHECK.due("33: alterRow(0, 3, 1)", x.alterRow(0, 3, 1), -9);
        CHECK.due("33: alterRow(0, -1, 1)", x.alterRow(0, -1, 1), -9);
        CHECK.due("33: alterRow(most int, 0, 1)", x.alterRow(Integer.MAX_VALUE, 0, 1), -9);
        x.prove(0, 3);
        CHECK.due("32: row(2, 0) proved anew", x.row(2, 0), 3);
    }

    private static void judged() {
        WeatherDisguise x = new WeatherDisguise();
        CHECK.due("34: judge(0) without AIRS", x.judge(0), -1);
        x.air(1, 4, 7, 0);
        x.air(1, 4, 7, 0);
        x.air(5, 4, 7, 0);
        CHECK.due("34: judge(0) without ROWS", x.judge(0), 0);
        x.prove(0, 10);
        CHECK.due("34: judge(0)", x.judge(0), 0);
        CHECK.due("34: judge(1), which goes likewise", x.judge(1), 0);
        CHECK.due("34: judge(2)", x.judge(2), 1);
        CHECK.due("34: judge(3)", x.judge(3), -1);
        CHECK.due("34: judge(-1)", x.judge(-1), -1);
        for (int i = 9; i >= 0; i--) {
            int was = x.alterRow(i, i % 3, 55);
            CHECK.due("34: judge(0), ROW " + i + " altered", x.judge(0), i + 1);
            x.alterRow(i, i % 3, was);
            CHECK.due("34: judge(0), ROW " + i + " mended", x.judge(0), 0);
        }
        x.alterRow(7, 2, 0);
        x.alterRow(3, 1, 0);
        CHECK.due("34: judge(0), two altered", x.judge(0), 4);
        x.prove(0, 10);
        x.send(0, 6);
        CHECK.due("34: judge(0) with another ERRAND", x.judge(0), 1);
        x.send(0, 7);
        x.pour(3, 1);
        CHECK.due("34: judge(0), HOUSE 3 wetter", x.judge(0), 3);
        x.pour(3, 0);
        CHECK.due("34: judge(0), all as it was", x.judge(0), 0);
        x.steps(1);
        CHECK.due("34: judge(0) from how it is now", x.judge(0), 1);
    }

    private static void wetByAllOfThem() {
        WeatherDisguise x = new WeatherDisguise();
        x.air(0, 4, 1, 0);
        x.air(1, 2, 1, 0);
        x.air(5, 9, 1, 3);
        x.prove(0, 4);
        int[] wet = {3, 3, 0, 3};
        for (int i = 0; i < 4; i++) {
            CHECK.due("31: how WET its HOUSE is", x.row(i, 1), wet[i]);
        }
        x.pour(3, 99);
        CHECK.due("31: prove(2, 3)", x.prove(2, 3), 3);
        CHECK.due("32: row(1, 1)", x.row(1, 1), 81);
        CHECK.due("32: row(2, 1), rain and heat", x.row(2, 1), 75);
        CHECK.due("32: row(2, 2)", x.row(2, 2), 2);
    }

    private static void refused() {
        WeatherDisguise x = new WeatherDisguise();
        CHECK.due("31: prove(0, 1) without AIRS", x.prove(0, 1), -1);
        x.air(5, 0, 0, 1);
        x.prove(0, 4);
        CHECK.due("31: prove(1, 1)", x.prove(1, 1), -1);
        CHECK.due("31: prove(-1, 1)", x.prove(-1, 1), -1);
        CHECK.due("31: prove(0, 0)", x.prove(0, 0), -1);
        CHECK.due("31: prove(0, 11)", x.prove(0, 11), -1);
        CHECK.due("31: prove(0, -1)", x.prove(0, -1), -1);
        CHECK.due("31: many(4) behind what is refused", x.many(4), 4);
    }

    private static void staying() {
        WeatherDisguise x = new WeatherDisguise();
        x.air(5, 0, 0, 1);
        x.keep();
        x.prove(0, 4);
        x.alterRow(1, 1, 44);
        x.steps(2);
        x.again();
        CHECK.due("45: ROWS stay behind again()", x.many(4), 4);
        CHECK.due("45: ROWS stay behind again()", x.row(1, 1), 44);
        Texts.city(x, "air");
        CHECK.due("3: ROWS stay behind a FAULT", x.many(4), 4);
        Texts.city(x, "heat at 1;");
        CHECK.due("3: there are no ROWS behind city()", x.many(4), 0);
        CHECK.due("3: there are no ROWS behind city()", x.row(0, 0), -9);
        CHECK.due("34: judge(0) then", x.judge(0), 0);
    }
}
