/** Promises 7 and 14: where each GOES, how much it WETS, and STEPS. */
public final class StepTest {
    private static final Check CHECK = new Check("StepTest");

    public static void main(String[] args) {
        outOfTheCity();
        byKinds();
        towardsTheErrand();
        inWhichSteps();
        howMuchTheyWet();
        turnsOfTheWind();
        goingBeforeWetting();
        wetByNumbers();
        answers();
        CHECK.end();
    }

    private static void outOfTheCity() {
        WeatherDisguise x = new WeatherDisguise();
        x.air(0, 0, 0, 0);
        for (int house = 0; house < 16; house++) {
            int column = house % 4;
            int row = house / 4;
            boolean[] out = {column == 3, row == 3, column == 0, row == 0};
            x.bring(0, house);
            for (int way = 0; way < 4; way++) {
                x.blow(way);
                CHECK.due("7: air AT " + house + " by " + way, x.of(0, 4), out[way] ? 4 : way);
            }
        }
    }

    /** An object in which STEP is n, WIND is 1, one of a KIND is AT 5 with ERRAND 7. */
    private static WeatherDisguise at(int n, int kind, int force) {
        WeatherDisguise x = new WeatherDisguise();
        if (n > 0) {
            x.steps(n);
        }
        x.blow(1);
        x.air(kind, force, 7, 5);
        return x;
    }

    private static void byKinds() {
        CHECK.due("7: air", at(0, 0, 0).of(0, 4), 1);
        CHECK.due("7: air in STEP 1", at(1, 0, 0).of(0, 4), 1);
        CHECK.due("7: rain of FORCE 2", at(0, 1, 2).of(0, 4), 1);
        CHECK.due("7: rain of FORCE 1", at(0, 1, 1).of(0, 4), 4);
        CHECK.due("7: heat", at(0, 5, 9).of(0, 4), 4);
        CHECK.due("7: drizzle of FORCE 0", at(0, 3, 0).of(0, 4), 0);
        CHECK.due("7: fog of FORCE 0", at(0, 2, 0).of(0, 4), 1);
        CHECK.due("7: mist of FORCE 0", at(0, 4, 0).of(0, 4), 1);
        WeatherDisguise x = at(0, 1, 0);
        x.set(2, 0);
        CHECK.due("7: rain of FORCE 0 by SHY 0", x.of(0, 4), 1);
        x.set(2, 9);
        x.mind(0, 1, 8);
        CHECK.due("7: rain of FORCE 8 by SHY 9", x.of(0, 4), 4);
        x.mind(0, 1, 9);
        CHECK.due("7: rain of FORCE 9 by SHY 9", x.of(0, 4), 1);
    }

    private static void towardsTheErrand() {
        int[] errands = {0, 1, 2, 3, 4, 5, 6, 7, 8, 9, 10, 11, 12, 13, 14, 15};
        int[] ways = {2, 3, 0, 0, 2, 4, 0, 0, 2, 1, 0, 0, 2, 1, 0, 0};
        WeatherDisguise x = new WeatherDisguise();
        x.air(3, 0, 0, 5);
        for (int errand : errands) {
            x.send(0, errand);
            CHECK.due("7: drizzle from 5 to " + errand, x.of(0, 4), ways[errand]);
        }
        x.send(0, 12);
        x.bring(0, 3);
        int[] places = {2, 1, 0, 4, 8, 12, 12, 12};
        for (int place : places) {
            x.steps(1);
            CHECK.due("14: drizzle on its errand", x.of(0, 3), place);
        }
    }

    private static void inWhichSteps() {
        for (int n = 0; n <= 12; n++) {
            CHECK.due("7: fog in STEP " + n, at(n, 2, 5).of(0, 4), n % 2 == 0 ? 1 : 4);
            CHECK.due("7: mist in STEP " + n, at(n, 4, 5).of(0, 4), n % 4 == 0 ? 1 : 0);
        }
        WeatherDisguise x = new WeatherDisguise();
        x.steps(1);
        x.air(4, 5, 7, 7);
        CHECK.due("7: mist AT its ERRAND", x.of(0, 4), 4);
        x.send(0, 8);
        CHECK.due("7: mist by columns first", x.of(0, 4), 2);
        x.send(0, 15);
        CHECK.due("7: mist by rows then", x.of(0, 4), 1);
        x.send(0, 3);
        CHECK.due("7: mist by rows then", x.of(0, 4), 3);
    }

    private static void howMuchTheyWet() {
        WeatherDisguise x = new WeatherDisguise();
        x.air(0, 0, 6, 5);
        for (int force = 0; force <= 9; force++) {
            int[] away = {0, 1 + force, 1, 1 + force, 1 + force / 3, 0 - force};
            for (int kind = 0; kind < 6; kind++) {
                x.mind(0, kind, force);
                x.bring(0, 5);
                CHECK.due("7: WETS of " + kind + " with " + force, x.of(0, 5), 1000 + away[kind]);
                x.bring(0, 6);
                int wets = kind == 3 ? 2 * away[kind] : away[kind];
                CHECK.due("7: WETS of " + kind + " with " + force + " AT its ERRAND", x.of(0, 5), 1000 + wets);
            }
        }
    }

    private static void turnsOfTheWind() {
        WeatherDisguise x = new WeatherDisguise();
        x.air(0, 0, 0, 0);
        int[] places = {1, 2, 3, 7, 11, 15, 14, 13, 12, 8, 4, 0, 1};
        int[] winds = {0, 0, 0, 1, 1, 1, 2, 2, 2, 3, 3, 3, 0};
        for (int i = 0; i < places.length; i++) {
            x.steps(1);
            CHECK.due("14: AT behind STEP " + i, x.of(0, 3), places[i]);
            CHECK.due("14: WIND behind STEP " + i, x.state(1), winds[i]);
            CHECK.due("14: STEP", x.state(0), i + 1);
        }
        WeatherDisguise y = new WeatherDisguise();
        y.set(0, 1);
        y.air(0, 0, 0, 0);
        int[] round = {1, 5, 4, 0, 1, 5};
        for (int place : round) {
            y.steps(1);
            CHECK.due("14: AT by TURN 1", y.of(0, 3), place);
        }
        WeatherDisguise z = new WeatherDisguise();
        z.set(0, 9);
        z.steps(9);
        CHECK.due("14: WIND behind 9 STEPS by TURN 9", z.state(1), 0);
        z.steps(1);
        CHECK.due("14: WIND behind 10 STEPS by TURN 9", z.state(1), 1);
        z.steps(60);
        CHECK.due("14: WIND behind 70 STEPS by TURN 9", z.state(1), 3);
        z.set(0, 7);
        z.steps(1);
        CHECK.due("14: WIND in STEP 70 by TURN 7", z.state(1), 0);
    }

    private static void goingBeforeWetting() {
        WeatherDisguise x = new WeatherDisguise();
        x.air(3, 2, 6, 5);
        x.steps(1);
        CHECK.due("14: the HOUSE it left", x.house(5, 0), 0);
        CHECK.due("14: its ERRAND, AT which it is then", x.house(6, 0), 6);
        x.steps(1);
        CHECK.due("14: its ERRAND, a STEP later", x.house(6, 0), 12);
        x.pour(6, 95);
        x.steps(1);
        CHECK.due("14: held to 99", x.house(6, 0), 99);
        x.mind(0, 5, 9);
        x.pour(6, 5);
        x.steps(1);
        CHECK.due("14: held to 0", x.house(6, 0), 0);
        x.mind(0, 1, 0);
        x.steps(1);
        CHECK.due("14: rain that stays wets by 1 and FORCE", x.house(6, 0), 1);
        x.mind(0, 4, 8);
        x.send(0, 6);
        x.bring(0, 6);
        x.steps(2);
        CHECK.due("14: mist by 1 and a third of FORCE", x.house(6, 0), 7);
    }

    private static void wetByNumbers() {
        WeatherDisguise x = new WeatherDisguise();
        x.set(2, 9);
        x.air(1, 8, 0, 5);
        x.air(5, 9, 0, 5);
        x.pour(5, 95);
        x.steps(1);
        CHECK.due("14: rain, then heat", x.house(5, 0), 90);
        x.mind(0, 5, 9);
        x.mind(1, 1, 8);
        x.pour(5, 95);
        x.steps(1);
        CHECK.due("14: heat, then rain", x.house(5, 0), 95);
        x.pour(5, 3);
        x.steps(1);
        CHECK.due("14: heat down to 0, then rain", x.house(5, 0), 9);
    }

    private static void answers() {
        WeatherDisguise x = new WeatherDisguise();
        x.air(3, 0, 2, 0);
        x.air(5, 0, 4, 4);
        x.air(5, 0, 4, 8);
        CHECK.due("14: steps(0)", x.steps(0), -1);
        CHECK.due("14: steps(61)", x.steps(61), -1);
        CHECK.due("14: steps(-1)", x.steps(-1), -1);
        CHECK.due("14: STEP behind what is refused", x.state(0), 0);
        CHECK.due("14: steps(1)", x.steps(1), 1);
        CHECK.due("14: steps(1)", x.steps(1), 2);
        CHECK.due("14: steps(60)", x.steps(60), 2);
        CHECK.due("14: STEP", x.state(0), 62);
    }
}
