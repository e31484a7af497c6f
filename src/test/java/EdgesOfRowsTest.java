/** Sentences that name a boundary of ROWS and of THE READER: Terms, promises 31 to 34. */
public final class EdgesOfRowsTest {
    private static final int TERMS = Sentences.TERMS;
    private static final int AIR = 0, RAIN = 1, HEAT = 5, LEAST_INT = Integer.MIN_VALUE, MOST_INT = Integer.MAX_VALUE;
    private static Sentences s;

    public static void main(String[] args) {
        all(new Sentences("EdgesOfRowsTest"));
        s.end();
    }

    static void all(Sentences sentences) {
        s = sentences;
        s.says(TERMS, "3 ROWS of one: (its HOUSE, how WET that is, OFF) behind 1, 2, .. n STEPS,",
            EdgesOfRowsTest::rowsOfOne);
        s.says(TERMS, "tried.", EdgesOfRowsTest::tried);
        s.says(TERMS, "THE READER takes ROWS as those of one, from how it is now:", EdgesOfRowsTest::fromHowItIsNow);
        s.says(TERMS, "right is one that is as it must be.", EdgesOfRowsTest::asItMustBe);
        s.says(31, "ROWS of one by n STEPS (1 to 10): how many.", EdgesOfRowsTest::prove);
        s.says(31, "BAD.", EdgesOfRowsTest::proveBad);
        s.says(32, "Of ROW i: what = 0 its HOUSE, 1 how WET that is, 2 OFF.", EdgesOfRowsTest::row);
        s.says(32, "-9: there is none such, another what.", EdgesOfRowsTest::rowNone);
        s.says(33, "It becomes v: what it was.", EdgesOfRowsTest::alterRow);
        s.says(33, "-9 likewise.", EdgesOfRowsTest::alterRowNone);
        s.says(34, "THE READER takes ROWS: 0 all is right (also if there are none);", EdgesOfRowsTest::allIsRight);
        s.says(34, "else the first ROW that isn't, and 1 more.", EdgesOfRowsTest::theFirstThatIsNot);
        s.says(34, "BAD.", EdgesOfRowsTest::judgeBad);
    }

    /** Rain once round the city, with its ERRAND in the last column; HOUSE 3 is WET, the others are dry. */
    private static WeatherDisguise rain() {
        WeatherDisguise x = new WeatherDisguise();
        x.air(RAIN, 4, 7, 0);
        x.pour(3, 97);
        return x;
    }

    private static WeatherDisguise proved(int n) {
        WeatherDisguise x = rain();
        x.prove(0, n);
        return x;
    }

    private static final int[][] ROWS = {{1, 5, 3}, {2, 5, 2}, {3, 99, 1}, {7, 5, 0}, {11, 5, 1}, {15, 5, 2}, {14, 5, 3},
        {13, 5, 4}, {12, 5, 5}, {8, 5, 4}};

    private static void rowsOfOne() {
        WeatherDisguise x = proved(10);
        for (int i = 0; i < 10; i++) {
            for (int what = 0; what < 3; what++) {
                s.due("row(" + i + ", " + what + ")", x.row(i, what), ROWS[i][what]);
            }
        }
        WeatherDisguise y = new WeatherDisguise();
        y.air(HEAT, 9, 0, 15);
        y.air(HEAT, 1, 15, 15);
        y.pour(15, 15);
        y.prove(1, 3);
        int[] wet = {5, 0, 0};
        for (int i = 0; i < 3; i++) {
            s.due("row(" + i + ", 0)", y.row(i, 0), 15);
            s.due("row(" + i + ", 1), two dry it", y.row(i, 1), wet[i]);
            s.due("row(" + i + ", 2)", y.row(i, 2), 0);
        }
    }

    private static void tried() {
        WeatherDisguise x = Worlds.eight();
        x.prove(7, 10);
        x.judge(0);
        WeatherDisguise y = Worlds.eight();
        y.prove(7, 1);
        for (int what = 0; what < 6; what++) {
            s.due("state(" + what + ")", x.state(what), y.state(what));
            s.due("of(7, " + what + ")", x.of(7, what), y.of(7, what));
        }
        s.same("prove(7, 10) and judge(0)", Whole.keptAndTape(x), Whole.keptAndTape(y));
    }

    private static void fromHowItIsNow() {
        WeatherDisguise x = proved(10);
        s.due("judge(0)", x.judge(0), 0);
        x.steps(1);
        s.due("judge(0) a STEP later", x.judge(0), 1);
        x = proved(10);
        x.pour(8, 1);
        s.due("judge(0), HOUSE 8 being wetter", x.judge(0), 10);
        x.pour(8, 0);
        x.pour(0, 9);
        s.due("judge(0), HOUSE 0 being wetter, AT which it won't be", x.judge(0), 0);
        x.blow(1);
        s.due("judge(0) by another WIND", x.judge(0), 1);
        x.blow(0);
        x.air(RAIN, 4, 7, 8);
        x.bring(1, 7);
        x.mind(1, HEAT, 0);
        s.due("judge(0), with another that dries nothing", x.judge(0), 0);
        s.due("judge(1), ROWS of the other", x.judge(1), 1);
    }

    private static void asItMustBe() {
        for (int i = 0; i < 10; i++) {
            for (int what = 0; what < 3; what++) {
                for (int by = -1; by <= 1; by += 2) {
                    WeatherDisguise x = proved(10);
                    x.alterRow(i, what, ROWS[i][what] + by);
                    s.due("judge(0), row(" + i + ", " + what + ") by " + by, x.judge(0), i + 1);
                    x.alterRow(i, what, ROWS[i][what]);
                    s.due("judge(0), mended", x.judge(0), 0);
                }
            }
        }
    }

    private static void prove() {
        for (int n = 1; n <= 10; n++) {
            WeatherDisguise x = proved(10);
            s.due("prove(0, " + n + ")", x.prove(0, n), n);
            s.due("many(4)", x.many(4), n);
            s.due("the last one", x.row(n - 1, 0), ROWS[n - 1][0]);
            s.due("one behind it", x.row(n, 0), -9);
        }
        s.within("prove(1, n)", Worlds::two, 1, 10, (x, v) -> x.prove(1, v));
        WeatherDisguise x = proved(2);
        x.alterRow(0, 0, 50);
        x.prove(0, 10);
        s.due("ROWS anew", x.row(0, 0), 1);
    }

    private static void proveBad() {
        s.within("prove(1, n)", Worlds::two, 1, 10, (x, v) -> x.prove(1, v));
        s.within("prove(air, 1)", Worlds::two, 0, 1, (x, v) -> x.prove(v, 1));
        s.within("prove(air, 10)", Worlds::eight, 0, 7, (x, v) -> x.prove(v, 10));
        s.bad("prove(air, 1) without AIRS", Worlds::fresh, (x, v) -> x.prove(v, 1), 0);
    }

    private static void row() {
        for (int n : new int[] {1, 9, 10}) {
            WeatherDisguise x = proved(n);
            for (int what = 0; what < 3; what++) {
                s.due("row(0, " + what + ") of " + n, x.row(0, what), ROWS[0][what]);
                s.due("row(" + (n - 1) + ", " + what + ") of " + n, x.row(n - 1, what), ROWS[n - 1][what]);
            }
        }
    }

    private static void rowNone() {
        for (int n : new int[] {1, 9, 10}) {
            for (int i : new int[] {-1, n, n + 1, 10, 11, LEAST_INT, MOST_INT}) {
                for (int what = -1; what <= 3; what++) {
                    s.due("row(" + i + ", " + what + ") of " + n, proved(n).row(i, what), -9);
                }
            }
            for (int what : new int[] {-1, 3, LEAST_INT, MOST_INT}) {
                s.due("row(0, " + what + ")", proved(n).row(0, what), -9);
                s.due("row(last, " + what + ")", proved(n).row(n - 1, what), -9);
            }
        }
        s.due("row(0, 0) without ROWS", rain().row(0, 0), -9);
        WeatherDisguise x = proved(10);
        x.prove(0, 1);
        s.due("row(1, 0) of ten that were", x.row(1, 0), -9);
    }

    private static void alterRow() {
        for (int i : new int[] {0, 9}) {
            for (int what = 0; what < 3; what++) {
                WeatherDisguise x = proved(10);
                s.due("alterRow(.., least int)", x.alterRow(i, what, LEAST_INT), ROWS[i][what]);
                s.due("row()", x.row(i, what), LEAST_INT);
                s.due("alterRow(.., most int)", x.alterRow(i, what, MOST_INT), LEAST_INT);
                s.due("row()", x.row(i, what), MOST_INT);
                s.due("alterRow(.., -9)", x.alterRow(i, what, -9), MOST_INT);
                s.due("row()", x.row(i, what), -9);
                s.due("the others stay", x.row(i, (what + 1) % 3), ROWS[i][(what + 1) % 3]);
                s.due("the others stay", x.row(9 - i, what), ROWS[9 - i][what]);
            }
        }
    }

    private static void alterRowNone() {
        for (int i : new int[] {-1, 9, 10, LEAST_INT, MOST_INT}) {
            s.refused("alterRow(" + i + ", 0, 5)", -9, Worlds::two, x -> x.alterRow(i, 0, 5));
            s.refused("alterRow(" + i + ", 3, 5)", -9, Worlds::two, x -> x.alterRow(i, 3, 5));
        }
        for (int what : new int[] {-1, 3, LEAST_INT, MOST_INT}) {
            s.refused("alterRow(0, " + what + ", 5)", -9, Worlds::two, x -> x.alterRow(0, what, 5));
            s.refused("alterRow(8, " + what + ", 5)", -9, Worlds::two, x -> x.alterRow(8, what, 5));
        }
        s.refused("alterRow(0, 0, 5) without ROWS", -9, Worlds::fresh, x -> x.alterRow(0, 0, 5));
        s.due("alterRow(8, 2, 5), the last one", Worlds.two().alterRow(8, 2, 5), -4);
    }

    private static void allIsRight() {
        for (int n = 1; n <= 10; n++) {
            s.due("judge(0) of " + n, proved(n).judge(0), 0);
        }
        s.due("judge(0) without ROWS", rain().judge(0), 0);
        WeatherDisguise x = proved(10);
        x.alterRow(9, 0, 5);
        x.prove(0, 9);
        s.due("judge(0), what was ROW 9 is none now", x.judge(0), 0);
        x.city();
        x.air(AIR, 0, 0, 0);
        s.due("judge(0) behind city()", x.judge(0), 0);
    }

    private static void theFirstThatIsNot() {
        for (int first = 9; first >= 0; first--) {
            WeatherDisguise x = proved(10);
            for (int i = first; i < 10; i++) {
                x.alterRow(i, (i + first) % 3, -1);
            }
            s.due("judge(0), wrong from " + first + " on", x.judge(0), first + 1);
        }
        WeatherDisguise x = proved(1);
        x.alterRow(0, 2, 9);
        s.due("judge(0) of a single one", x.judge(0), 1);
    }

    private static void judgeBad() {
        s.bad("judge(air)", Worlds::two, (x, v) -> x.judge(v), -1, 2, LEAST_INT, MOST_INT);
        s.bad("judge(air)", Worlds::eight, (x, v) -> x.judge(v), -1, 8);
        s.bad("judge(air) without AIRS", Worlds::fresh, (x, v) -> x.judge(v), 0);
        s.due("judge(7), the last one", Worlds.eight().judge(7), 1);
        s.due("judge(0), the first one", Worlds.eight().judge(0), 1);
    }
}
