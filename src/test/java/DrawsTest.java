/** Promises 15 to 17: z, STEPS BY DRAWS and BLOWN. */
public final class DrawsTest {
    private static final Check CHECK = new Check("DrawsTest");

    public static void main(String[] args) {
        seeds();
        aStepWithoutAGust();
        aStepWithAGust();
        theBoundOfAGust();
        answers();
        blown();
        CHECK.end();
    }

    private static void seeds() {
        WeatherDisguise x = new WeatherDisguise();
        CHECK.due("15: seed(-5)", x.seed(-5), 1);
        CHECK.due("15: seed(least int)", x.seed(Integer.MIN_VALUE), -5);
        CHECK.due("15: seed(0)", x.seed(0), Integer.MIN_VALUE);
        CHECK.due("15: seed(most int)", x.seed(Integer.MAX_VALUE), 0);
        x.steps(3);
        x.blown(9);
        CHECK.due("15: z is as it was behind steps() and blown()", x.seed(1), Integer.MAX_VALUE);
    }

    /** z 1 becomes 1103527590, of which 16838 is drawn: 38 of a hundred. */
    private static void aStepWithoutAGust() {
        WeatherDisguise x = new WeatherDisguise();
        x.air(0, 0, 0, 0);
        x.set(3, 38);
        CHECK.due("16: step()", x.step(), 0);
        CHECK.due("16: z behind a single draw", x.seed(1), 1103527590);
        CHECK.due("16: WIND is as it was", x.state(1), 0);
        CHECK.due("16: AT", x.of(0, 3), 1);
        CHECK.due("16: STEP", x.state(0), 1);
    }

    /** Behind the gust z becomes -1770082073, of which 38526 is drawn: way 2. */
    private static void aStepWithAGust() {
        int second = -1770082073;
        WeatherDisguise x = new WeatherDisguise();
        x.set(3, 39);
        x.air(0, 0, 0, 5);
        x.step();
        CHECK.due("16: z behind two draws", x.seed(1), second);
        CHECK.due("16: WIND is drawn", x.state(1), 2);
        CHECK.due("16: AT by the WIND drawn", x.of(0, 3), 4);
        x.set(0, 1);
        x.seed(1);
        x.step();
        CHECK.due("16: WIND is drawn before it turns", x.state(1), 3);
        CHECK.due("16: STEP", x.state(0), 2);
    }

    private static void theBoundOfAGust() {
        for (int seed = -40; seed < 40; seed++) {
            int drawn = (seed * 1103515245 + 12345 >>> 16) % 100;
            WeatherDisguise x = new WeatherDisguise();
            x.seed(seed);
            x.set(3, drawn);
            x.step();
            CHECK.due("16: one draw where GUST is what is left", x.seed(seed), seed * 1103515245 + 12345);
            if (drawn < 99) {
                x.set(3, drawn + 1);
                x.step();
                int twice = (seed * 1103515245 + 12345) * 1103515245 + 12345;
                CHECK.due("16: two draws where GUST is one more", x.seed(0), twice);
                CHECK.due("16: the way drawn", x.state(1), (twice >>> 16) % 4);
            }
        }
    }

    private static void answers() {
        WeatherDisguise x = new WeatherDisguise();
        x.set(3, 0);
        x.air(3, 0, 6, 5);
        x.air(5, 0, 1, 1);
        x.air(5, 3, 1, 0);
        CHECK.due("16: step()", x.step(), 2);
        CHECK.due("16: a STEP BY DRAWS wets, too", x.house(6, 0), 2);
        x.send(1, 2);
        CHECK.due("16: step()", x.step(), 1);
    }

    private static int blownByHand(int z, int n, int gust, boolean[] other) {
        int count = 0;
        for (int i = 0; i < n; i++) {
            z = z * 1103515245 + 12345;
            if ((z >>> 16) % 100 < gust) {
                z = z * 1103515245 + 12345;
                count += other[(z >>> 16) % 4] ? 1 : 0;
            }
        }
        return count;
    }

    private static void blown() {
        WeatherDisguise x = new WeatherDisguise();
        CHECK.due("17: blown(30) without AIRS", x.blown(30), 0);
        x.air(5, 0, 0, 5);
        x.set(3, 99);
        CHECK.due("17: blown(30) of heat", x.blown(30), 0);
        x.air(0, 0, 0, 5);
        boolean[] other = {false, true, true, true};
        boolean[] otherInCorner = {false, false, true, true};
        for (int n = 1; n <= 30; n++) {
            x.set(3, 3 * n);
            x.seed(1000 * n);
            x.bring(1, 5);
            CHECK.due("17: blown(" + n + ")", x.blown(n), blownByHand(1000 * n, n, 3 * n, other));
            x.bring(1, 15);
            CHECK.due("17: blown(" + n + ") AT 15", x.blown(n), blownByHand(1000 * n, n, 3 * n, otherInCorner));
        }
        x.mind(0, 0, 0);
        x.mind(1, 5, 0);
        CHECK.due("17: blown(30), the first of two goes", x.blown(30), blownByHand(30000, 30, 90, other));
        x.mind(0, 5, 0);
        x.mind(1, 0, 0);
        CHECK.due("17: z is as it was", x.seed(1), 30000);
        CHECK.due("17: STEP is as it was", x.state(0), 0);
        CHECK.due("17: WIND is as it was", x.state(1), 0);
        CHECK.due("17: AT is as it was", x.of(1, 3), 15);
        CHECK.due("17: blown(0)", x.blown(0), -1);
        CHECK.due("17: blown(31)", x.blown(31), -1);
        CHECK.due("17: blown(-1)", x.blown(-1), -1);
        x.set(3, 0);
        CHECK.due("17: blown(30) by GUST 0", x.blown(30), 0);
        x.set(3, 99);
        x.set(0, 1);
        x.steps(1);
        x.bring(1, 5);
        boolean[] turned = {false, true, true, true};
        CHECK.due("17: held against a STEP with its own turn", x.blown(30), blownByHand(1, 30, 99, turned));
    }
}
