/** Promises 29 and 30: ODDS and HOPE as parts of fractions. */
public final class OddsTest {
    private static final Check CHECK = new Check("OddsTest");

    public static void main(String[] args) {
        ordinary();
        withoutADivisor();
        byTheBoundsOfGust();
        refused();
        CHECK.end();
    }

    private static void odds(WeatherDisguise x, int n, int k, long above, long below) {
        CHECK.due("29: odds(" + n + ", " + k + ", 0)", x.odds(n, k, 0), above);
        CHECK.due("29: odds(" + n + ", " + k + ", 1)", x.odds(n, k, 1), below);
    }

    private static void hope(WeatherDisguise x, int n, long above, long below) {
        CHECK.due("30: hope(" + n + ", 0)", x.hope(n, 0), above);
        CHECK.due("30: hope(" + n + ", 1)", x.hope(n, 1), below);
    }

    private static void ordinary() {
        WeatherDisguise x = new WeatherDisguise();
        odds(x, 0, 0, 1, 1);
        odds(x, 1, 0, 4, 5);
        odds(x, 1, 1, 1, 5);
        odds(x, 2, 1, 8, 25);
        odds(x, 3, 1, 48, 125);
        odds(x, 8, 0, 65536, 390625);
        odds(x, 8, 4, 3584, 78125);
        odds(x, 8, 8, 1, 390625);
        hope(x, 0, 0, 1);
        hope(x, 1, 1, 5);
        hope(x, 4, 4, 5);
        hope(x, 5, 1, 1);
        hope(x, 99, 99, 5);
        x.set(3, 50);
        odds(x, 8, 4, 35, 128);
        odds(x, 4, 2, 3, 8);
        hope(x, 3, 3, 2);
    }

    private static void withoutADivisor() {
        WeatherDisguise x = new WeatherDisguise();
        x.set(3, 37);
        odds(x, 8, 8, 37L * 37 * 37 * 37 * 37 * 37 * 37 * 37, 10000000000000000L);
        odds(x, 2, 1, 2331, 5000);
        hope(x, 99, 3663, 100);
        hope(x, 50, 37, 2);
        x.set(3, 99);
        odds(x, 8, 8, 9227446944279201L, 10000000000000000L);
        odds(x, 8, 7, 93206534790699L, 1250000000000000L);
        odds(x, 8, 0, 1, 10000000000000000L);
        x.set(3, 1);
        odds(x, 8, 8, 1, 10000000000000000L);
        odds(x, 8, 0, 9227446944279201L, 10000000000000000L);
    }

    private static void byTheBoundsOfGust() {
        WeatherDisguise x = new WeatherDisguise();
        x.set(3, 0);
        for (int n = 0; n <= 8; n++) {
            odds(x, n, 0, 1, 1);
            hope(x, n, 0, 1);
            for (int k = 1; k <= n; k++) {
                odds(x, n, k, 0, 1);
            }
        }
    }

    private static void refused() {
        WeatherDisguise x = new WeatherDisguise();
        CHECK.due("29: odds(9, 0, 0)", x.odds(9, 0, 0), -1);
        CHECK.due("29: odds(-1, 0, 0)", x.odds(-1, 0, 0), -1);
        CHECK.due("29: odds(3, 4, 0)", x.odds(3, 4, 0), -1);
        CHECK.due("29: odds(3, -1, 0)", x.odds(3, -1, 0), -1);
        CHECK.due("29: odds(3, 1, 2)", x.odds(3, 1, 2), -1);
        CHECK.due("29: odds(3, 1, -1)", x.odds(3, 1, -1), -1);
        CHECK.due("30: hope(100, 0)", x.hope(100, 0), -1);
        CHECK.due("30: hope(-1, 0)", x.hope(-1, 0), -1);
        CHECK.due("30: hope(3, 2)", x.hope(3, 2), -1);
        CHECK.due("30: hope(3, -1)", x.hope(3, -1), -1);
    }
}
