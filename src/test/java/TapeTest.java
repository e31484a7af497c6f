/** Promises 2 and 3: THE TAPE, its TEXT and FAULTS. */
public final class TapeTest {
    private static final Check CHECK = new Check("TapeTest");

    public static void main(String[] args) {
        feeding();
        full();
        aWholeCity();
        kinds();
        untold();
        parting();
        numbers();
        faultsOfOrder();
        faultsOfBytes();
        ends();
        theNinth();
        usedUp();
        whatStays();
        CHECK.end();
    }

    private static void feeding() {
        WeatherDisguise x = new WeatherDisguise();
        CHECK.due("2: feed(0, 0)", x.feed(0, 0), -1);
        CHECK.due("2: feed(0, 9)", x.feed(0, 9), -1);
        CHECK.due("2: feed(0, -1)", x.feed(0, -1), -1);
        CHECK.due("43: many(5)", x.many(5), 0);
        CHECK.due("2: feed(.., 8)", x.feed(Texts.eightFrom("heat at ", 0, 8), 8), 8);
        CHECK.due("2: feed(.., 1)", x.feed(Texts.eightFrom("9xxxxxxx", 0, 8), 1), 9);
        CHECK.due("2: feed(.., 3)", x.feed(Texts.eightFrom("  ;", 0, 3), 3), 12);
        CHECK.due("3: the lowest of eight first", x.city(), 1);
        CHECK.due("3: AT", x.of(0, 3), 9);
        x.feed(-1L, 8);
        CHECK.due("3: the byte 255", x.city(), -100);
    }

    private static void full() {
        WeatherDisguise x = new WeatherDisguise();
        for (int i = 1; i <= 24; i++) {
            CHECK.due("2: feed(32, 8)", x.feed(0x2020202020202020L, 8), 8 * i);
        }
        CHECK.due("2: feed(32, 7)", x.feed(0x2020202020202020L, 7), 199);
        CHECK.due("2: two more", x.feed(0x3b3b, 2), -2);
        CHECK.due("2: nine more", x.feed(0x3b3b, 9), -1);
        CHECK.due("43: many(5)", x.many(5), 199);
        CHECK.due("2: one more", x.feed(32, 1), 200);
        CHECK.due("2: one more", x.feed(59, 1), -2);
        CHECK.due("3: blanks alone are a city", x.city(), 0);
        CHECK.due("43: many(5)", x.many(5), 0);
        StringBuilder text = new StringBuilder();
        while (text.length() < 196) {
            text.append("wind 1; ");
        }
        text.setLength(194);
        CHECK.due("2: 200 bytes", Texts.feed(x, text + "shy 9;"), 200);
        CHECK.due("3: a NAME as long as it goes, 'wishy'", x.city(), -292);
        text.setLength(192);
        Texts.feed(x, text + "  shy 9;");
        CHECK.due("3: all 200 are read", x.city(), 0);
        CHECK.due("5: lawOf(2)", x.lawOf(2), 9);
        Texts.feed(x, text + "   shy 9");
        CHECK.due("3: more must come behind 200", x.city(), -300);
    }

    private static void aWholeCity() {
        WeatherDisguise x = new WeatherDisguise();
        String text = "mist at 15 force 9 errand 1; wet 15 is 99; air at 0; wind 3; turn 9; damp 99; shy 9; gust 99;"
            + "heat at 7 errand 15;fog at 2 force 0;wet 0 is 1;";
        CHECK.due("3: city()", Texts.city(x, text), 4);
        int[][] airs = {{4, 9, 1, 15}, {0, 3, 0, 0}, {5, 3, 15, 7}, {2, 0, 0, 2}};
        for (int air = 0; air < 4; air++) {
            for (int what = 0; what < 4; what++) {
                CHECK.due("3: of(" + air + ", " + what + ")", x.of(air, what), airs[air][what]);
            }
        }
        CHECK.due("3: WIND", x.state(1), 3);
        int[] laws = {9, 99, 9, 99};
        for (int law = 0; law < 4; law++) {
            CHECK.due("3: lawOf(" + law + ")", x.lawOf(law), laws[law]);
        }
        CHECK.due("3: how WET all are", x.state(2), 100);
        CHECK.due("3: house(15, 0)", x.house(15, 0), 99);
        CHECK.due("3: house(0, 0)", x.house(0, 0), 1);
        CHECK.due("3: told twice", Texts.city(x, "wind 2;wind 1;wet 3 is 4;wet 3 is 0;turn 4;turn 5;"), 0);
        CHECK.due("3: the latter WIND", x.state(1), 1);
        CHECK.due("3: the latter WET", x.house(3, 0), 0);
        CHECK.due("3: the latter TURN", x.lawOf(0), 5);
    }

    private static void kinds() {
        String[] names = {"air", "rain", "fog", "drizzle", "mist", "heat"};
        WeatherDisguise x = new WeatherDisguise();
        for (int kind = 0; kind < 6; kind++) {
            CHECK.due("3: one " + names[kind], Texts.city(x, names[kind] + " at 5;"), 1);
            CHECK.due("3: its KIND", x.of(0, 0), kind);
            CHECK.due("3: FORCE untold", x.of(0, 1), 3);
            CHECK.due("3: ERRAND untold", x.of(0, 2), 0);
            CHECK.due("3: AT", x.of(0, 3), 5);
        }
    }

    private static void untold() {
        WeatherDisguise x = new WeatherDisguise();
        x.air(0, 1, 2, 3);
        x.air(0, 1, 2, 3);
        x.steps(7);
        x.blow(3);
        x.pour(4, 5);
        int[] other = {8, 9, 7, 5};
        for (int law = 0; law < 4; law++) {
            x.set(law, other[law]);
        }
        x.seed(55);
        x.prove(0, 9);
        x.blown(9);
        Texts.city(x, "air at 3;turn 7;damp 8;shy 9;gust 1;wet 1 is 2;wind 2;wind 4;");
        CHECK.due("3: an empty TEXT", x.city(), 0);
        for (int what = 0; what < 6; what++) {
            CHECK.due("3: state(" + what + ") as at first", x.state(what), 0);
        }
        int[] first = {3, 6, 2, 20};
        for (int law = 0; law < 4; law++) {
            CHECK.due("3: lawOf(" + law + ") as at first", x.lawOf(law), first[law]);
        }
        CHECK.due("3: there are no AIRS", x.of(0, 0), -1);
        CHECK.due("3: z stays", x.seed(1), 55);
    }

    private static void parting() {
        WeatherDisguise x = new WeatherDisguise();
        CHECK.due("3: blanks as one likes", Texts.city(x, "   air   at   7   force  2  errand    3   ;   "), 1);
        CHECK.due("3: FORCE", x.of(0, 1), 2);
        CHECK.due("3: ERRAND", x.of(0, 2), 3);
        CHECK.due("3: no blanks where none are needed", Texts.city(x, "air at 7 force 2 errand 3;wet 1 is 2;"), 1);
        CHECK.due("3: a NAME as long as it goes", Texts.city(x, "airat 7;"), -100);
        CHECK.due("3: a NAME as long as it goes", Texts.city(x, "airs at 7;"), -100);
        CHECK.due("3: a NAME as long as it goes", Texts.city(x, "air att 7;"), -104);
        CHECK.due("3: a NAME as long as it goes", Texts.city(x, "ai at 7;"), -100);
        CHECK.due("3: a NUMBER as long as it goes", Texts.city(x, "air at 7 7;"), -109);
    }

    private static void bounds(String before, int least, int most, String behind) {
        WeatherDisguise x = new WeatherDisguise();
        CHECK.holds("3: " + before + least, Texts.city(x, before + least + behind) >= 0);
        CHECK.holds("3: " + before + most, Texts.city(x, before + most + behind) >= 0);
        int fault = -100 - before.length();
        CHECK.due("3: " + before + (most + 1), Texts.city(x, before + (most + 1) + behind), fault);
        CHECK.due("3: " + before + "999", Texts.city(x, before + "999" + behind), fault);
        CHECK.due("3: " + before + "0001", Texts.city(x, before + "0001" + behind), fault);
        CHECK.due("3: " + before + "-1", Texts.city(x, before + "-1" + behind), fault);
        CHECK.due("3: " + before + "nothing", Texts.city(x, before + behind), fault - behind.length()
            + behind.trim().length());
        CHECK.due("3: " + before + "a NAME", Texts.city(x, before + "one" + behind), fault);
        CHECK.holds("3: " + before + "00" + least, Texts.city(x, before + "00" + least + behind) >= 0);
        if (least > 0) {
            CHECK.due("3: " + before + (least - 1), Texts.city(x, before + (least - 1) + behind), fault);
        }
    }

    private static void numbers() {
        bounds("air at ", 0, 15, ";");
        bounds("air at 1 force ", 0, 9, ";");
        bounds("air at 1 errand ", 0, 15, ";");
        bounds("air at 1 force 2 errand ", 0, 15, " ;");
        bounds("wet ", 0, 15, " is 3;");
        bounds("wet 3 is ", 0, 99, ";");
        bounds("wind ", 0, 3, ";");
        bounds("turn ", 1, 9, ";");
        bounds("damp ", 0, 99, ";");
        bounds("shy ", 0, 9, ";");
        bounds("gust ", 0, 99, ";");
        WeatherDisguise x = new WeatherDisguise();
        Texts.city(x, "air at 015 force 009 errand 07;");
        CHECK.due("3: a NUMBER of three digits", x.of(0, 3), 15);
        CHECK.due("3: a NUMBER of three digits", x.of(0, 1), 9);
        CHECK.due("3: a NUMBER of two digits", x.of(0, 2), 7);
        CHECK.due("3: very many digits", Texts.city(x, "air at 00000000000000000000000000000000000000001;"), -107);
    }

    private static void fault(String text, int place) {
        WeatherDisguise x = new WeatherDisguise();
        x.air(5, 1, 2, 3);
        CHECK.due("3: city() of '" + text + "'", Texts.city(x, text), -100 - place);
        CHECK.due("3: nothing changes", x.of(0, 0), 5);
        CHECK.due("3: nothing changes", x.many(0), 1);
        CHECK.due("3: THE TAPE is used up", x.many(5), 0);
    }

    private static void faultsOfOrder() {
        fault("drizzle at 0 errand 10;air at 4;mist at 15 errand 12 force 9;", 53);
        fault("at 5;", 0);
        fault("5;", 0);
        fault(";", 0);
        fault("air at 5;;", 9);
        fault("air 5;", 4);
        fault("air force 2 at 5;", 4);
        fault("air at 5 force 2 force 3;", 17);
        fault("air at 5 errand 2 errand 3;", 18);
        fault("air at 5 is 3;", 9);
        fault("air at 5 air at 6;", 9);
        fault("air at ; 5", 7);
        fault("wet 3 4;", 6);
        fault("wet 3 at 4;", 6);
        fault("wet is 4;", 4);
        fault("wet 3 is 4 force 3;", 11);
        fault("wind is 3;", 5);
        fault("wind 3 3;", 7);
        fault("turn;", 4);
        fault("damp 3 is 4;", 7);
        fault("snow at 5;", 0);
        fault("air at 5; snow at 5;", 10);
        fault("wind 9; snow at 5;", 5);
    }

    private static void faultsOfBytes() {
        fault("Air at 5;", 0);
        fault("aiR at 5;", 0);
        fault("air At 5;", 4);
        fault("air\tat 5;", 3);
        fault("air at 5\n;", 8);
        fault("air at 5,", 8);
        fault("air at 5:", 8);
        fault("air at 5`;", 8);
        fault("air at 5{;", 8);
        fault("air at 5/;", 8);
        fault("air at \u0000", 7);
        fault("air at 5; \u00a0", 10);
        fault("air at 5; \u00e1", 10);
        fault("[", 0);
        fault("eir at 5;", 0);
        fault("air bt 5;", 4);
        fault("bet 3 is 4;", 0);
        fault("@ir at 5;", 0);
    }

    private static void ends() {
        String[] cut = {"air", "air at", "air at 5", "air at 5 force", "air at 5 force 3", "air at 5 errand",
            "air at 5 force 3 errand 4", "wet", "wet 3", "wet 3 is", "wet 3 is 4", "wind", "wind 3", "turn", "damp",
            "shy", "gust", "gust 4", "air at 5;wind", "air at 5   ", "air   "};
        for (String text : cut) {
            fault(text, text.length());
        }
        fault("air at 5; win", 10);
        fault("  ai", 2);
    }

    private static void theNinth() {
        String eight = "air at 1;air at 2;air at 3;air at 4;air at 5;air at 6;air at 7;air at 8;";
        WeatherDisguise x = new WeatherDisguise();
        CHECK.due("3: eight", Texts.city(x, eight), 8);
        CHECK.due("3: eight, and more of others", Texts.city(x, eight + "wind 2;wet 1 is 2;"), 8);
        fault(eight + " heat at 9;", 73);
        fault(eight + "heat", 72);
        fault(eight + "heat nowhere", 72);
        fault(eight + "hea", 72);
        CHECK.due("3: eight again", Texts.city(x, eight), 8);
        CHECK.due("3: they become all, none is added", Texts.city(x, "fog at 3;"), 1);
    }

    private static void usedUp() {
        WeatherDisguise x = new WeatherDisguise();
        Texts.feed(x, "fog at 3;");
        CHECK.due("43: many(5)", x.many(5), 9);
        CHECK.due("3: city()", x.city(), 1);
        CHECK.due("43: many(5)", x.many(5), 0);
        CHECK.due("3: city() of an empty TAPE", x.city(), 0);
        CHECK.due("2: THE TAPE begins anew", Texts.feed(x, "fog a"), 5);
        CHECK.due("3: city()", x.city(), -104);
        CHECK.due("2: THE TAPE begins anew", Texts.feed(x, "t 3;"), 4);
        CHECK.due("3: city()", x.city(), -100);
        x.keep();
        Texts.feed(x, "fog at");
        x.again();
        x.steps(3);
        CHECK.due("43: THE TAPE stays till city()", x.many(5), 6);
    }

    private static void whatStays() {
        WeatherDisguise x = new WeatherDisguise();
        x.air(0, 4, 0, 0);
        x.sheet(1, 2, 3);
        x.put(1, 1, 9);
        x.shelf(0, 1, 1);
        x.shelf(1, 0, 0);
        x.act(1, 0, 1);
        CHECK.due("3: city()", Texts.city(x, "rain at 4;"), 1);
        CHECK.due("3: SHEETS stay", x.item(1, 2, 1), 9);
        CHECK.due("3: SHELVES stay", x.taken(0, 12), 3);
        CHECK.due("3: a SHELF holds one by its number", x.taken(1, 1), 0);
        CHECK.due("3: THE TRACE stays", x.trace(0), 10);
        CHECK.due("3: city() with a FAULT", Texts.city(x, "wet 3 is 4;turn 5;seed 8;"), -118);
        CHECK.due("3: nothing changes by a FAULT", x.house(3, 0), 0);
        CHECK.due("3: nothing changes by a FAULT", x.lawOf(0), 3);
    }
}
