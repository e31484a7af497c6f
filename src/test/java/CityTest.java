/** Promises 1, 4 to 6, 8 to 13, 18 and 43: a city as it is set up, and what is told of it. */
public final class CityTest {
    private static final Check CHECK = new Check("CityTest");

    public static void main(String[] args) {
        newObject();
        twoObjects();
        laws();
        airs();
        changesOfOne();
        windAndWet();
        states();
        CHECK.end();
    }

    private static void newObject() {
        WeatherDisguise x = new WeatherDisguise();
        for (int what = 0; what <= 6; what++) {
            CHECK.due("1: many(" + what + ")", x.many(what), 0);
        }
        for (int what = 0; what <= 5; what++) {
            CHECK.due("1: state(" + what + ")", x.state(what), 0);
        }
        for (int house = 0; house < 16; house++) {
            CHECK.due("1: house(" + house + ", 0)", x.house(house, 0), 0);
            CHECK.due("1: house(" + house + ", 1)", x.house(house, 1), 0);
        }
        int[] first = {3, 6, 2, 20};
        for (int law = 0; law < 4; law++) {
            CHECK.due("1: lawOf(" + law + ")", x.lawOf(law), first[law]);
            CHECK.due("1: item(" + law + ", 0, 0)", x.item(law, 0, 0), -11);
            CHECK.due("1: taken(" + law + ", 0)", x.taken(law, 0), -11);
        }
        CHECK.due("1: again()", x.again(), -3);
        CHECK.due("1: of(0, 0)", x.of(0, 0), -1);
        CHECK.due("1: row(0, 0)", x.row(0, 0), -9);
        CHECK.due("1: trace(0)", x.trace(0), -3);
        CHECK.due("1: seed(7)", x.seed(7), 1);
    }

    private static void twoObjects() {
        WeatherDisguise x = new WeatherDisguise();
        WeatherDisguise y = new WeatherDisguise();
        x.air(5, 1, 2, 3);
        x.pour(3, 9);
        x.set(0, 8);
        x.keep();
        x.sheet(1, 0, 3);
        x.shelf(1, 0, 0);
        x.feed(59, 1);
        CHECK.due("1: many(0) of another object", y.many(0), 0);
        CHECK.due("1: house(3, 0) of another object", y.house(3, 0), 0);
        CHECK.due("1: lawOf(0) of another object", y.lawOf(0), 3);
        CHECK.due("1: again() of another object", y.again(), -3);
        CHECK.due("1: item(1, 0, 0) of another object", y.item(1, 0, 0), -11);
        CHECK.due("1: taken(1, 5) of another object", y.taken(1, 5), -11);
        CHECK.due("1: many(5) of another object", y.many(5), 0);
    }

    private static void laws() {
        WeatherDisguise x = new WeatherDisguise();
        int[] first = {3, 6, 2, 20};
        int[] least = {1, 0, 0, 0};
        int[] most = {9, 99, 9, 99};
        for (int law = 0; law < 4; law++) {
            CHECK.due("4: set(" + law + ", most)", x.set(law, most[law]), first[law]);
            CHECK.due("4: set(" + law + ", most + 1)", x.set(law, most[law] + 1), -1);
            CHECK.due("5: lawOf(" + law + ")", x.lawOf(law), most[law]);
            CHECK.due("4: set(" + law + ", least)", x.set(law, least[law]), most[law]);
            CHECK.due("4: set(" + law + ", least - 1)", x.set(law, least[law] - 1), -1);
            CHECK.due("5: lawOf(" + law + ")", x.lawOf(law), least[law]);
        }
        CHECK.due("4: set(0, 0)", x.set(0, 0), -1);
        CHECK.due("4: set(4, 1)", x.set(4, 1), -1);
        CHECK.due("4: set(-1, 1)", x.set(-1, 1), -1);
        CHECK.due("5: lawOf(4)", x.lawOf(4), -1);
        CHECK.due("5: lawOf(-1)", x.lawOf(-1), -1);
        CHECK.due("5: lawOf(least int)", x.lawOf(Integer.MIN_VALUE), -1);
    }

    private static void airs() {
        WeatherDisguise x = new WeatherDisguise();
        CHECK.due("6: air(6, 0, 0, 0)", x.air(6, 0, 0, 0), -1);
        CHECK.due("6: air(-1, 0, 0, 0)", x.air(-1, 0, 0, 0), -1);
        CHECK.due("6: air(0, 10, 0, 0)", x.air(0, 10, 0, 0), -1);
        CHECK.due("6: air(0, -1, 0, 0)", x.air(0, -1, 0, 0), -1);
        CHECK.due("6: air(0, 0, 16, 0)", x.air(0, 0, 16, 0), -1);
        CHECK.due("6: air(0, 0, -1, 0)", x.air(0, 0, -1, 0), -1);
        CHECK.due("6: air(0, 0, 0, 16)", x.air(0, 0, 0, 16), -1);
        CHECK.due("6: air(0, 0, 0, -1)", x.air(0, 0, 0, -1), -1);
        CHECK.due("6: many(0) behind what is refused", x.many(0), 0);
        for (int i = 0; i < 8; i++) {
            CHECK.due("6: air number " + i, x.air(i % 6, 9 - i, 15 - i, 2 * i), i);
            CHECK.due("43: many(0)", x.many(0), i + 1);
        }
        CHECK.due("6: a ninth", x.air(0, 0, 0, 0), -2);
        CHECK.due("6: a ninth that is BAD, too", x.air(0, 0, 0, 16), -1);
        CHECK.due("6: many(0)", x.many(0), 8);
        for (int i = 0; i < 8; i++) {
            CHECK.due("7: of(" + i + ", 0)", x.of(i, 0), i % 6);
            CHECK.due("7: of(" + i + ", 1)", x.of(i, 1), 9 - i);
            CHECK.due("7: of(" + i + ", 2)", x.of(i, 2), 15 - i);
            CHECK.due("7: of(" + i + ", 3)", x.of(i, 3), 2 * i);
        }
        CHECK.due("7: of(8, 0)", x.of(8, 0), -1);
        CHECK.due("7: of(-1, 0)", x.of(-1, 0), -1);
        CHECK.due("7: of(0, 6)", x.of(0, 6), -1);
        CHECK.due("7: of(0, -1)", x.of(0, -1), -1);
    }

    private static void changesOfOne() {
        WeatherDisguise x = new WeatherDisguise();
        x.air(2, 4, 7, 5);
        x.air(0, 1, 3, 5);
        CHECK.due("8: mind(0, 5, 9)", x.mind(0, 5, 9), 2);
        CHECK.due("8: mind(0, 0, 0)", x.mind(0, 0, 0), 5);
        CHECK.due("8: mind(0, 4, 8)", x.mind(0, 4, 8), 0);
        CHECK.due("8: KIND", x.of(0, 0), 4);
        CHECK.due("8: FORCE", x.of(0, 1), 8);
        CHECK.due("8: ERRAND stays", x.of(0, 2), 7);
        CHECK.due("8: AT stays", x.of(0, 3), 5);
        CHECK.due("8: the other one's KIND", x.of(1, 0), 0);
        CHECK.due("8: mind(2, 0, 0)", x.mind(2, 0, 0), -1);
        CHECK.due("8: mind(-1, 0, 0)", x.mind(-1, 0, 0), -1);
        CHECK.due("8: mind(0, 6, 0)", x.mind(0, 6, 0), -1);
        CHECK.due("8: mind(0, -1, 0)", x.mind(0, -1, 0), -1);
        CHECK.due("8: mind(0, 0, 10)", x.mind(0, 0, 10), -1);
        CHECK.due("8: mind(0, 0, -1)", x.mind(0, 0, -1), -1);
        CHECK.due("8: KIND behind what is refused", x.of(0, 0), 4);
        CHECK.due("9: bring(0, 15)", x.bring(0, 15), 5);
        CHECK.due("9: bring(0, 0)", x.bring(0, 0), 15);
        CHECK.due("9: bring(0, 16)", x.bring(0, 16), -1);
        CHECK.due("9: bring(0, -1)", x.bring(0, -1), -1);
        CHECK.due("9: bring(2, 1)", x.bring(2, 1), -1);
        CHECK.due("9: bring(-1, 1)", x.bring(-1, 1), -1);
        CHECK.due("9: AT", x.of(0, 3), 0);
        CHECK.due("9: the other one is AT", x.of(1, 3), 5);
        CHECK.due("10: send(0, 15)", x.send(0, 15), 7);
        CHECK.due("10: send(0, 0)", x.send(0, 0), 15);
        CHECK.due("10: send(0, 16)", x.send(0, 16), -1);
        CHECK.due("10: send(0, -1)", x.send(0, -1), -1);
        CHECK.due("10: send(2, 1)", x.send(2, 1), -1);
        CHECK.due("10: send(-1, 1)", x.send(-1, 1), -1);
        CHECK.due("10: ERRAND", x.of(0, 2), 0);
        CHECK.due("10: the other one's ERRAND", x.of(1, 2), 3);
    }

    private static void windAndWet() {
        WeatherDisguise x = new WeatherDisguise();
        CHECK.due("11: blow(3)", x.blow(3), 0);
        CHECK.due("11: blow(0)", x.blow(0), 3);
        CHECK.due("11: blow(2)", x.blow(2), 0);
        CHECK.due("11: blow(4)", x.blow(4), -1);
        CHECK.due("11: blow(-1)", x.blow(-1), -1);
        CHECK.due("11: WIND", x.state(1), 2);
        CHECK.due("12: pour(0, 99)", x.pour(0, 99), 0);
        CHECK.due("12: pour(0, 0)", x.pour(0, 0), 99);
        CHECK.due("12: pour(15, 7)", x.pour(15, 7), 0);
        CHECK.due("12: pour(15, 100)", x.pour(15, 100), -1);
        CHECK.due("12: pour(15, -1)", x.pour(15, -1), -1);
        CHECK.due("12: pour(16, 7)", x.pour(16, 7), -1);
        CHECK.due("12: pour(-1, 7)", x.pour(-1, 7), -1);
        CHECK.due("13: house(15, 0)", x.house(15, 0), 7);
        CHECK.due("13: house(0, 0)", x.house(0, 0), 0);
        x.air(5, 0, 0, 15);
        x.air(5, 0, 0, 0);
        x.air(5, 0, 0, 15);
        CHECK.due("13: house(15, 1)", x.house(15, 1), 5);
        CHECK.due("13: house(0, 1)", x.house(0, 1), 2);
        CHECK.due("13: house(7, 1)", x.house(7, 1), 0);
        CHECK.due("13: house(16, 0)", x.house(16, 0), -1);
        CHECK.due("13: house(-1, 1)", x.house(-1, 1), -1);
        CHECK.due("13: house(0, 2)", x.house(0, 2), -1);
        CHECK.due("13: house(0, -1)", x.house(0, -1), -1);
    }

    private static void states() {
        WeatherDisguise x = new WeatherDisguise();
        x.air(5, 0, 4, 4);
        x.air(5, 0, 4, 15);
        x.air(5, 0, 15, 15);
        x.air(5, 0, 4, 0);
        x.pour(2, 6);
        x.pour(3, 5);
        x.pour(15, 99);
        x.blow(3);
        CHECK.due("18: state(0)", x.state(0), 0);
        CHECK.due("18: state(1)", x.state(1), 3);
        CHECK.due("18: state(2)", x.state(2), 110);
        CHECK.due("18: state(3)", x.state(3), 1 << 4 | 1 << 15 | 1);
        CHECK.due("18: state(4)", x.state(4), 1 | 4);
        CHECK.due("18: state(5)", x.state(5), 1 << 2 | 1 << 15);
        CHECK.due("18: state(6)", x.state(6), -1);
        CHECK.due("18: state(-1)", x.state(-1), -1);
        x.set(1, 0);
        CHECK.due("18: state(5) by DAMP 0", x.state(5), 65535);
        x.set(1, 99);
        CHECK.due("18: state(5) by DAMP 99", x.state(5), 1 << 15);
        CHECK.due("43: many(0)", x.many(0), 4);
        CHECK.due("43: many(1)", x.many(1), 2);
        CHECK.due("43: many(2)", x.many(2), 3);
        CHECK.due("43: many(3)", x.many(3), 3);
        x.pour(3, 1);
        CHECK.due("43: many(3), one WET by 1", x.many(3), 3);
        x.pour(3, 0);
        CHECK.due("43: many(3), that one dry", x.many(3), 2);
        CHECK.due("43: many(4)", x.many(4), 0);
        CHECK.due("43: many(5)", x.many(5), 0);
        CHECK.due("43: many(6)", x.many(6), 0);
        x.prove(0, 7);
        x.feed(0, 8);
        x.feed(0, 3);
        x.shelf(2, 0, 1);
        x.act(2, 3, 5);
        CHECK.due("43: many(4)", x.many(4), 7);
        CHECK.due("43: many(5)", x.many(5), 11);
        CHECK.due("43: many(6)", x.many(6), 4);
        CHECK.due("43: many(7)", x.many(7), -1);
        CHECK.due("43: many(-1)", x.many(-1), -1);
        x.steps(60);
        x.steps(1);
        CHECK.due("18: state(0) behind 61 STEPS", x.state(0), 61);
    }
}
