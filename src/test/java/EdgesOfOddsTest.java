import java.math.BigInteger;

/** Sentences that name a boundary of ODDS and HOPE: Terms, promises 29 and 30. */
public final class EdgesOfOddsTest {
    private static final int TERMS = Sentences.TERMS;
    private static Sentences s;

    public static void main(String[] args) {
        all(new Sentences("EdgesOfOddsTest"));
        s.end();
    }

    static void all(Sentences sentences) {
        s = sentences;
        s.says(TERMS, "A part of a fraction: 0 above the line, 1 below it,", EdgesOfOddsTest::parts);
        s.says(TERMS, "without a common divisor,", EdgesOfOddsTest::withoutADivisor);
        s.says(TERMS, "below above 0", EdgesOfOddsTest::belowAbove0);
        s.says(TERMS, "(0 is 0 by 1).", EdgesOfOddsTest::nothingIs0By1);
        s.says(TERMS, "ODDS by n, k: that of n days just k have a gust, each by GUST of a hundred.",
            EdgesOfOddsTest::oddsOfAll);
        s.says(TERMS, "HOPE by n: how many have on average.", EdgesOfOddsTest::hopeOfAll);
        s.says(29, "ODDS by n (0 to 8), k (0 to n): a part of them.", EdgesOfOddsTest::odds);
        s.says(29, "BAD.", EdgesOfOddsTest::oddsBad);
        s.says(30, "HOPE by n (0 to 99): a part of it.", EdgesOfOddsTest::hope);
        s.says(30, "BAD.", EdgesOfOddsTest::hopeBad);
    }

    private static WeatherDisguise gust(int gust) {
        WeatherDisguise x = new WeatherDisguise();
        x.set(3, gust);
        return x;
    }

    private static void oddsAre(int gust, int n, int k, long above, long below) {
        String call = "odds(" + n + ", " + k + ", ..) by GUST " + gust;
        s.due(call + " above", gust(gust).odds(n, k, 0), above);
        s.due(call + " below", gust(gust).odds(n, k, 1), below);
    }

    private static void hopeIs(int gust, int n, long above, long below) {
        String call = "hope(" + n + ", ..) by GUST " + gust;
        s.due(call + " above", gust(gust).hope(n, 0), above);
        s.due(call + " below", gust(gust).hope(n, 1), below);
    }

    private static void parts() {
        oddsAre(20, 1, 1, 1, 5);
        hopeIs(20, 1, 1, 5);
        s.within("odds(1, 1, part)", Worlds::two, 0, 1, (x, v) -> x.odds(1, 1, v));
        s.within("hope(1, part)", Worlds::two, 0, 1, (x, v) -> x.hope(1, v));
    }

    private static void withoutADivisor() {
        hopeIs(20, 5, 1, 1);
        hopeIs(50, 2, 1, 1);
        hopeIs(50, 3, 3, 2);
        hopeIs(99, 99, 9801, 100);
        hopeIs(99, 50, 99, 2);
        oddsAre(50, 8, 4, 35, 128);
        oddsAre(50, 1, 0, 1, 2);
        oddsAre(99, 8, 8, 9227446944279201L, 10000000000000000L);
        oddsAre(99, 8, 7, 93206534790699L, 1250000000000000L);
        oddsAre(1, 8, 8, 1, 10000000000000000L);
    }

    private static void belowAbove0() {
        for (int gust : new int[] {0, 1, 50, 99}) {
            for (int n = 0; n <= 8; n++) {
                for (int k = 0; k <= n; k++) {
                    s.holds("odds(" + n + ", " + k + ", 1)", gust(gust).odds(n, k, 1) > 0);
                    s.holds("odds(" + n + ", " + k + ", 0)", gust(gust).odds(n, k, 0) >= 0);
                }
            }
            for (int n = 0; n <= 99; n++) {
                s.holds("hope(" + n + ", 1)", gust(gust).hope(n, 1) > 0);
            }
        }
    }

    private static void nothingIs0By1() {
        hopeIs(20, 0, 0, 1);
        hopeIs(0, 99, 0, 1);
        hopeIs(0, 0, 0, 1);
        oddsAre(0, 1, 1, 0, 1);
        oddsAre(0, 8, 8, 0, 1);
        oddsAre(0, 8, 1, 0, 1);
        oddsAre(0, 8, 0, 1, 1);
    }

    /** All n days, one by one, each with a gust or without. */
    private static BigInteger above(int gust, int n, int k) {
        BigInteger sum = BigInteger.ZERO;
        for (int days = 0; days < 1 << n; days++) {
            BigInteger product = BigInteger.ONE;
            for (int day = 0; day < n; day++) {
                product = product.multiply(BigInteger.valueOf((days >> day & 1) == 1 ? gust : 100 - gust));
            }
            sum = Integer.bitCount(days) == k ? sum.add(product) : sum;
        }
        return sum;
    }

    private static void oddsOfAll() {
        for (int gust : new int[] {0, 1, 20, 37, 50, 98, 99}) {
            for (int n = 0; n <= 8; n++) {
                for (int k = 0; k <= n; k++) {
                    BigInteger above = above(gust, n, k);
                    BigInteger below = BigInteger.valueOf(100).pow(n);
                    BigInteger divisor = above.gcd(below);
                    oddsAre(gust, n, k, above.divide(divisor).longValueExact(), below.divide(divisor).longValueExact());
                }
            }
        }
    }

    private static void hopeOfAll() {
        for (int gust = 0; gust <= 99; gust += 11) {
            WeatherDisguise x = gust(gust);
            for (int n = 0; n <= 99; n++) {
                int divisor = BigInteger.valueOf(n * gust).gcd(BigInteger.valueOf(100)).intValue();
                s.due("hope(" + n + ", 0) by GUST " + gust, x.hope(n, 0), n * gust / divisor);
                s.due("hope(" + n + ", 1) by GUST " + gust, x.hope(n, 1), 100 / divisor);
            }
        }
    }

    private static void odds() {
        oddsAre(20, 0, 0, 1, 1);
        oddsAre(20, 8, 0, 65536, 390625);
        oddsAre(20, 8, 8, 1, 390625);
        s.within("odds(n, 0, 1)", Worlds::two, 0, 8, (x, v) -> x.odds(v, 0, 1));
        for (int n = 0; n <= 8; n++) {
            int days = n;
            s.within("odds(" + n + ", k, 0)", Worlds::two, 0, n, (x, v) -> x.odds(days, v, 0));
        }
    }

    private static void oddsBad() {
        s.within("odds(n, 0, 0)", Worlds::two, 0, 8, (x, v) -> x.odds(v, 0, 0));
        s.within("odds(8, k, 0)", Worlds::two, 0, 8, (x, v) -> x.odds(8, v, 0));
        s.within("odds(0, k, 1)", Worlds::two, 0, 0, (x, v) -> x.odds(0, v, 1));
        s.within("odds(8, 8, part)", Worlds::two, 0, 1, (x, v) -> x.odds(8, 8, v));
        s.bad("odds(n, k, 0), both alike", Worlds::two, (x, v) -> x.odds(v, v, 0), -1, 9);
    }

    private static void hope() {
        hopeIs(20, 0, 0, 1);
        hopeIs(20, 1, 1, 5);
        hopeIs(20, 98, 98, 5);
        hopeIs(20, 99, 99, 5);
        s.within("hope(n, 1)", Worlds::two, 0, 99, (x, v) -> x.hope(v, 1));
    }

    private static void hopeBad() {
        s.within("hope(n, 0)", Worlds::two, 0, 99, (x, v) -> x.hope(v, 0));
        s.within("hope(99, part)", Worlds::two, 0, 1, (x, v) -> x.hope(99, v));
    }
}
