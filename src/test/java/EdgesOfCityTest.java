/** Sentences that name a boundary of a city as it is set up: Terms, promises 1, 4 to 13, 18 and 43. */
public final class EdgesOfCityTest {
    private static final int TERMS = Sentences.TERMS;
    private static final int[] LEAST = {1, 0, 0, 0}, MOST = {9, 99, 9, 99}, FIRST = {3, 6, 2, 20};
    private static Sentences s;

    public static void main(String[] args) {
        all(new Sentences("EdgesOfCityTest"));
        s.end();
    }

    static void all(Sentences sentences) {
        s = sentences;
        s.says(Sentences.WHAT_IT_IS, "An object is used for at most 512 calls after it has been made",
            EdgesOfCityTest::theLastOf512);
        newObject();
        terms();
        lawsAndAirs();
        changes();
        asked();
    }

    private static void newObject() {
        s.says(1, "No AIRS,", EdgesOfCityTest::noAirs);
        s.says(1, "all is dry;", EdgesOfCityTest::allIsDry);
        s.says(1, "nothing is kept.", () -> s.refused("again()", -3, WeatherDisguise::new, x -> x.again()));
    }

    private static void terms() {
        s.says(TERMS, "Sets are told by bits.", EdgesOfCityTest::setsByBits);
        s.says(TERMS, "1 LAWS: 0 TURN (1 to 9; 3 at first)", () -> law(0));
        s.says(TERMS, "1 DAMP (0 to 99; 6)", () -> law(1));
        s.says(TERMS, "2 SHY (0 to 9; 2)", () -> law(2));
        s.says(TERMS, "3 GUST (0 to 99 of a hundred; 20)", () -> law(3));
        s.says(TERMS, "STEP (0 at first)", EdgesOfCityTest::stepAtFirst);
        s.says(TERMS, "WIND (a way; 0 at first)", EdgesOfCityTest::windAtFirst);
        s.says(TERMS, "HOUSES 0 to 15, four by four: column c, row r is 4 * r + c.", EdgesOfCityTest::houses);
        s.says(TERMS, "WAYS 0 (a column more), 1 (a row more), 2 (a column less), 3 (a row less).",
            EdgesOfCityTest::ways);
        s.says(TERMS, "Each HOUSE is WET (0 to 99; 0 at first).", EdgesOfCityTest::wet);
        s.says(TERMS, "AIRS, 8 at most", EdgesOfCityTest::eightAtMost);
        s.says(TERMS, "numbered as they come", EdgesOfCityTest::numberedAsTheyCome);
        s.says(TERMS, "each of a KIND: 0 air; 1 rain, 2 fog, 5 heat (under air); 3 drizzle (under rain);"
            + " 4 mist (under fog)", EdgesOfCityTest::kinds);
        s.says(TERMS, "with a FORCE (0 to 9)", EdgesOfCityTest::force);
        s.says(TERMS, "an ERRAND (a HOUSE)", EdgesOfCityTest::errand);
        s.says(TERMS, "AT a HOUSE.", EdgesOfCityTest::at);
    }

    private static void lawsAndAirs() {
        s.says(4, "A LAW becomes v: what it was.", EdgesOfCityTest::setAnswersWhatItWas);
        s.says(4, "BAD (TURN 0, too).", EdgesOfCityTest::setBad);
        s.says(5, "A LAW.", EdgesOfCityTest::lawOf);
        s.says(5, "BAD.", () -> s.within("lawOf(law)", Worlds::two, 0, 3, (x, v) -> x.lawOf(v)));
        s.says(6, "One more AT a HOUSE: its number.", EdgesOfCityTest::oneMore);
        s.says(6, "BAD;", EdgesOfCityTest::airBad);
        s.says(6, "FULL.", EdgesOfCityTest::airFull);
        s.says(7, "Of one: what = 0 KIND, 1 FORCE, 2 ERRAND, 3 AT,", EdgesOfCityTest::of);
        s.says(7, "4 the way by which it GOES by WIND and STEP as they are now (4: it stays),",
            EdgesOfCityTest::wayAsItIsNow);
        s.says(7, "5 1000, and what it WETS now.", EdgesOfCityTest::wetsNow);
        s.says(7, "BAD.", EdgesOfCityTest::ofBad);
    }

    private static void changes() {
        s.says(8, "One becomes one of another KIND, with another FORCE: the KIND that it was.", EdgesOfCityTest::mind);
        s.says(8, "BAD.", EdgesOfCityTest::mindBad);
        s.says(9, "It is AT a HOUSE from now on: AT which it was.", EdgesOfCityTest::bring);
        s.says(9, "BAD.", EdgesOfCityTest::bringBad);
        s.says(10, "Its ERRAND becomes a HOUSE: what it was.", EdgesOfCityTest::send);
        s.says(10, "BAD.", EdgesOfCityTest::sendBad);
        s.says(11, "WIND becomes a way: what it was.", EdgesOfCityTest::blow);
        s.says(11, "BAD.", () -> s.within("blow(way)", Worlds::two, 0, 3, (x, v) -> x.blow(v)));
        s.says(12, "A HOUSE is as WET as v (0 to 99): how WET it was.", EdgesOfCityTest::pour);
        s.says(12, "BAD.", EdgesOfCityTest::pourBad);
    }

    private static void asked() {
        s.says(13, "Of a HOUSE: what = 0 how WET it is, 1 those AT it, as a set.", EdgesOfCityTest::house);
        s.says(13, "BAD.", EdgesOfCityTest::houseBad);
        s.says(18, "What = 0 STEP,", EdgesOfCityTest::stateOfStep);
        s.says(18, "1 WIND,", EdgesOfCityTest::stateOfWind);
        s.says(18, "2 how WET all HOUSES are, together,", EdgesOfCityTest::wetTogether);
        s.says(18, "3 HOUSES AT which one is, as a set,", EdgesOfCityTest::housesWithAirs);
        s.says(18, "4 those AT their ERRANDS, as a set,", EdgesOfCityTest::airsAtErrands);
        s.says(18, "5 HOUSES that are WET by DAMP or more, as a set.", EdgesOfCityTest::dampHouses);
        s.says(18, "BAD.", () -> s.within("state(what)", Worlds::two, 0, 5, (x, v) -> x.state(v)));
        s.says(43, "How many: what = 0 AIRS,", EdgesOfCityTest::manyAirs);
        s.says(43, "1 those AT their ERRANDS,", EdgesOfCityTest::manyAtErrands);
        s.says(43, "2 HOUSES AT which one is,", EdgesOfCityTest::manyHouses);
        s.says(43, "3 HOUSES that are WET above 0,", EdgesOfCityTest::manyWet);
        s.says(43, "4 ROWS,", EdgesOfCityTest::manyRows);
        s.says(43, "5 bytes of THE TAPE,", EdgesOfCityTest::manyBytes);
        s.says(43, "6 bodies of THE TRACE (those kept, 30 at most).", EdgesOfCityTest::manyBodies);
        s.says(43, "BAD: another what.", () -> s.within("many(what)", Worlds::two, 0, 6, (x, v) -> x.many(v)));
    }

    private static void theLastOf512() {
        WeatherDisguise x = new WeatherDisguise();
        for (int i = 0; i < 511; i++) {
            x.steps(60);
        }
        s.due("state(0), the 512th call", x.state(0), 511 * 60);
        WeatherDisguise y = new WeatherDisguise();
        for (int i = 0; i < 511; i++) {
            y.seed(i);
        }
        s.due("seed(0), the 512th call", y.seed(0), 510);
        WeatherDisguise z = new WeatherDisguise();
        for (int i = 0; i < 511; i++) {
            s.due("air() again and again", z.air(0, 0, 0, 0), i < 8 ? i : -2);
        }
        s.due("many(0), the 512th call", z.many(0), 8);
    }

    private static void noAirs() {
        WeatherDisguise x = new WeatherDisguise();
        s.due("many(0)", x.many(0), 0);
        s.due("of(0, 0)", x.of(0, 0), -1);
        s.due("state(3)", x.state(3), 0);
        s.due("state(4)", x.state(4), 0);
        s.due("the first one's number", x.air(0, 0, 0, 0), 0);
    }

    private static void allIsDry() {
        WeatherDisguise x = new WeatherDisguise();
        for (int house = 0; house < 16; house++) {
            s.due("house(" + house + ", 0)", x.house(house, 0), 0);
        }
        s.due("state(2)", x.state(2), 0);
        s.due("many(3)", x.many(3), 0);
    }

    private static void setsByBits() {
        WeatherDisguise x = new WeatherDisguise();
        for (int i = 0; i < 8; i++) {
            x.air(5, 0, 0, i == 0 ? 0 : i == 7 ? 15 : 5);
        }
        s.due("one numbered 0 alone", x.house(0, 1), 1);
        s.due("one numbered 7 alone", x.house(15, 1), 128);
        s.due("those numbered 1 to 6", x.house(5, 1), 126);
        s.due("HOUSES 0, 5 and 15", x.state(3), 1 + 32 + 32768);
    }

    private static void law(int law) {
        s.due("lawOf(" + law + ") at first", new WeatherDisguise().lawOf(law), FIRST[law]);
        s.within("set(" + law + ", v)", Worlds::two, LEAST[law], MOST[law], (x, v) -> x.set(law, v));
        for (int v = LEAST[law]; v <= MOST[law]; v++) {
            WeatherDisguise x = new WeatherDisguise();
            s.due("set(" + law + ", " + v + ")", x.set(law, v), FIRST[law]);
            for (int other = 0; other < 4; other++) {
                s.due("lawOf(" + other + ") then", x.lawOf(other), other == law ? v : FIRST[other]);
            }
        }
    }

    private static void stepAtFirst() {
        WeatherDisguise x = new WeatherDisguise();
        s.due("state(0)", x.state(0), 0);
        x.set(0, 1);
        x.steps(1);
        s.due("WIND behind a STEP by TURN 1, as STEP was 0", x.state(1), 0);
    }

    private static void windAtFirst() {
        WeatherDisguise x = new WeatherDisguise();
        s.due("state(1)", x.state(1), 0);
        x.air(0, 0, 0, 5);
        x.steps(1);
        s.due("AT behind a STEP", x.of(0, 3), 6);
        s.within("blow(way)", Worlds::two, 0, 3, (y, v) -> y.blow(v));
    }

    private static void houses() {
        for (int row = 0; row < 4; row++) {
            for (int column = 0; column < 4; column++) {
                WeatherDisguise x = new WeatherDisguise();
                x.air(0, 0, 0, 4 * row + column);
                s.due("house() of that", x.house(4 * row + column, 1), 1);
                s.due("where(0, 1)", x.where(0, 1), 4 * row + Math.min(3, column + 1));
                x.blow(1);
                s.due("where(0, 1) by 1", x.where(0, 1), 4 * Math.min(3, row + 1) + column);
            }
        }
        s.within("house(house, 0)", Worlds::two, 0, 15, (x, v) -> x.house(v, 0));
    }

    private static void ways() {
        int[] next = {6, 9, 4, 1};
        for (int way = 0; way < 4; way++) {
            WeatherDisguise x = new WeatherDisguise();
            x.air(0, 0, 0, 5);
            x.blow(way);
            s.due("of(0, 4) by " + way, x.of(0, 4), way);
            x.steps(1);
            s.due("AT behind a STEP by " + way, x.of(0, 3), next[way]);
        }
        s.refused("blow(4)", -1, Worlds::two, x -> x.blow(4));
        s.refused("blow(-1)", -1, Worlds::two, x -> x.blow(-1));
    }

    private static void wet() {
        for (int house = 0; house < 16; house++) {
            int at = house;
            WeatherDisguise x = new WeatherDisguise();
            s.due("pour(" + at + ", 99)", x.pour(at, 99), 0);
            s.due("house(" + at + ", 0)", x.house(at, 0), 99);
            s.due("all HOUSES together", x.state(2), 99);
            s.due("pour(" + at + ", 0)", x.pour(at, 0), 99);
            s.due("house(" + at + ", 0)", x.house(at, 0), 0);
        }
        s.within("pour(6, v)", Worlds::two, 0, 99, (x, v) -> x.pour(6, v));
    }

    private static void eightAtMost() {
        WeatherDisguise x = new WeatherDisguise();
        for (int i = 0; i < 7; i++) {
            x.air(0, 0, 0, 0);
        }
        s.due("the eighth", x.air(5, 9, 15, 15), 7);
        s.due("many(0)", x.many(0), 8);
        s.due("of(7, 2)", x.of(7, 2), 15);
        s.due("of(8, 0)", x.of(8, 0), -1);
        s.refused("a ninth", -2, Worlds::eight, y -> y.air(0, 0, 0, 0));
    }

    private static void numberedAsTheyCome() {
        WeatherDisguise x = new WeatherDisguise();
        for (int i = 0; i < 8; i++) {
            s.due("one more", x.air(5, i + 1, i, 15 - i), i);
            s.due("its FORCE", x.of(i, 1), i + 1);
            s.due("none is behind it", x.of(i + 1, 1), -1);
        }
        for (int i = 0; i < 8; i++) {
            s.due("of(" + i + ", 1)", x.of(i, 1), i + 1);
            s.due("of(" + i + ", 2)", x.of(i, 2), i);
            s.due("of(" + i + ", 3)", x.of(i, 3), 15 - i);
        }
    }

    private static void kinds() {
        int[] parent = {-1, 0, 0, 1, 2, 0};
        for (int kind = 0; kind < 6; kind++) {
            WeatherDisguise x = new WeatherDisguise();
            x.air(kind, 0, 0, 0);
            s.due("of(0, 0)", x.of(0, 0), kind);
            x.shelf(0, 0, 0);
            for (int as = 0; as < 6; as++) {
                int up = kind;
                while (up != as && up >= 0) {
                    up = parent[up];
                }
                s.due("taken(0, " + as + ") of KIND " + kind, x.taken(0, as), up == as ? 0 : -13);
            }
        }
        s.within("air(kind, 0, 0, 0)", Worlds::two, 0, 5, (x, v) -> x.air(v, 0, 0, 0));
        s.within("mind(1, kind, 0)", Worlds::two, 0, 5, (x, v) -> x.mind(1, v, 0));
    }

    private static void force() {
        for (int force = 0; force < 10; force++) {
            WeatherDisguise x = new WeatherDisguise();
            x.air(0, force, 0, 0);
            s.due("of(0, 1)", x.of(0, 1), force);
        }
        s.within("air(0, force, 0, 0)", Worlds::two, 0, 9, (x, v) -> x.air(0, v, 0, 0));
        s.within("mind(1, 0, force)", Worlds::two, 0, 9, (x, v) -> x.mind(1, 0, v));
    }

    private static void errand() {
        for (int errand = 0; errand < 16; errand++) {
            WeatherDisguise x = new WeatherDisguise();
            x.air(0, 0, errand, 0);
            s.due("of(0, 2)", x.of(0, 2), errand);
        }
        s.within("air(0, 0, errand, 0)", Worlds::two, 0, 15, (x, v) -> x.air(0, 0, v, 0));
        s.within("send(1, house)", Worlds::two, 0, 15, (x, v) -> x.send(1, v));
    }

    private static void at() {
        for (int house = 0; house < 16; house++) {
            WeatherDisguise x = new WeatherDisguise();
            x.air(0, 0, 0, house);
            s.due("of(0, 3)", x.of(0, 3), house);
            s.due("state(3)", x.state(3), 1 << house);
        }
        s.within("air(0, 0, 0, house)", Worlds::two, 0, 15, (x, v) -> x.air(0, 0, 0, v));
        s.within("bring(1, house)", Worlds::two, 0, 15, (x, v) -> x.bring(1, v));
    }

    private static void setAnswersWhatItWas() {
        WeatherDisguise x = new WeatherDisguise();
        for (int law = 0; law < 4; law++) {
            s.due("set(" + law + ", most)", x.set(law, MOST[law]), FIRST[law]);
            s.due("set(" + law + ", least)", x.set(law, LEAST[law]), MOST[law]);
            s.due("set(" + law + ", least) again", x.set(law, LEAST[law]), LEAST[law]);
            s.due("set(" + law + ", most + 1)", x.set(law, MOST[law] + 1), -1);
            s.due("set(" + law + ", most), what it was", x.set(law, MOST[law]), LEAST[law]);
        }
    }

    private static void setBad() {
        s.refused("set(0, 0)", -1, Worlds::two, x -> x.set(0, 0));
        s.due("set(0, 1)", Worlds.two().set(0, 1), 4);
        s.within("set(law, 1)", Worlds::two, 0, 3, (x, v) -> x.set(v, 1));
        for (int law = 0; law < 4; law++) {
            int one = law;
            s.within("set(" + law + ", v)", Worlds::two, LEAST[law], MOST[law], (x, v) -> x.set(one, v));
        }
    }

    private static void lawOf() {
        WeatherDisguise x = new WeatherDisguise();
        for (int law = 0; law < 4; law++) {
            s.due("lawOf(" + law + ")", x.lawOf(law), FIRST[law]);
            x.set(law, MOST[law]);
            s.due("lawOf(" + law + "), the most", x.lawOf(law), MOST[law]);
            x.set(law, LEAST[law]);
            s.due("lawOf(" + law + "), the least", x.lawOf(law), LEAST[law]);
        }
    }

    private static void oneMore() {
        WeatherDisguise x = new WeatherDisguise();
        s.due("air(5, 9, 15, 15)", x.air(5, 9, 15, 15), 0);
        s.due("air(0, 0, 0, 0)", x.air(0, 0, 0, 0), 1);
        int[][] of = {{5, 9, 15, 15}, {0, 0, 0, 0}};
        for (int air = 0; air < 2; air++) {
            for (int what = 0; what < 4; what++) {
                s.due("of(" + air + ", " + what + ")", x.of(air, what), of[air][what]);
            }
        }
    }

    private static void airBad() {
        s.within("air(kind, 0, 0, 0)", Worlds::two, 0, 5, (x, v) -> x.air(v, 0, 0, 0));
        s.within("air(0, force, 0, 0)", Worlds::two, 0, 9, (x, v) -> x.air(0, v, 0, 0));
        s.within("air(0, 0, errand, 0)", Worlds::two, 0, 15, (x, v) -> x.air(0, 0, v, 0));
        s.within("air(0, 0, 0, house)", Worlds::two, 0, 15, (x, v) -> x.air(0, 0, 0, v));
    }

    private static void airFull() {
        s.refused("air(5, 9, 15, 15)", -2, Worlds::eight, x -> x.air(5, 9, 15, 15));
        s.refused("air(0, 0, 0, 0)", -2, Worlds::eight, x -> x.air(0, 0, 0, 0));
        WeatherDisguise x = Worlds.eight();
        x.city();
        s.due("air() behind a city() of one", x.air(0, 0, 0, 0), 1);
    }

    private static void of() {
        WeatherDisguise x = Worlds.eight();
        for (int i = 0; i < 8; i++) {
            s.due("of(" + i + ", 0)", x.of(i, 0), (i + 3) % 6);
            s.due("of(" + i + ", 1)", x.of(i, 1), 9 - i);
            s.due("of(" + i + ", 2)", x.of(i, 2), 15 - i);
            s.due("of(" + i + ", 3)", x.house(x.of(i, 3), 1) >> i & 1, 1);
        }
    }

    private static void wayAsItIsNow() {
        WeatherDisguise x = new WeatherDisguise();
        x.set(0, 1);
        x.air(0, 0, 0, 5);
        x.air(2, 0, 0, 5);
        s.due("air in STEP 0", x.of(0, 4), 0);
        s.due("fog in STEP 0", x.of(1, 4), 0);
        x.steps(1);
        s.due("air in STEP 1, by WIND as it is, not as it turns", x.of(0, 4), 0);
        s.due("fog in STEP 1", x.of(1, 4), 4);
        x.blow(3);
        s.due("air by WIND 3", x.of(0, 4), 3);
        x.bring(0, 3);
        s.due("air by WIND 3 out of the city", x.of(0, 4), 4);
        x.bring(0, 4);
        s.due("air by WIND 3 to the least row", x.of(0, 4), 3);
        x.blow(2);
        s.due("air by WIND 2 out of the city", x.of(0, 4), 4);
    }

    private static void wetsNow() {
        WeatherDisguise x = new WeatherDisguise();
        x.air(5, 9, 6, 5);
        s.due("heat of the most FORCE", x.of(0, 5), 991);
        x.mind(0, 5, 0);
        s.due("heat of the least FORCE", x.of(0, 5), 1000);
        x.mind(0, 3, 9);
        s.due("drizzle of the most FORCE", x.of(0, 5), 1010);
        x.bring(0, 6);
        s.due("that AT its ERRAND", x.of(0, 5), 1020);
        x.mind(0, 0, 9);
        s.due("air of the most FORCE", x.of(0, 5), 1000);
    }

    private static void ofBad() {
        s.within("of(air, 0)", Worlds::two, 0, 1, (x, v) -> x.of(v, 0));
        s.within("of(air, 5)", Worlds::eight, 0, 7, (x, v) -> x.of(v, 5));
        s.within("of(1, what)", Worlds::two, 0, 5, (x, v) -> x.of(1, v));
        s.refused("of(0, 0) without AIRS", -1, Worlds::fresh, x -> x.of(0, 0));
    }

    private static void mind() {
        WeatherDisguise x = Worlds.eight();
        for (int air = 0; air < 8; air += 7) {
            int was = x.of(air, 0);
            int errand = x.of(air, 2);
            int at = x.of(air, 3);
            s.due("mind(" + air + ", 5, 9)", x.mind(air, 5, 9), was);
            s.due("FORCE then", x.of(air, 1), 9);
            s.due("mind(" + air + ", 0, 0)", x.mind(air, 0, 0), 5);
            s.due("mind(" + air + ", 0, 3), the same KIND", x.mind(air, 0, 3), 0);
            s.due("FORCE then", x.of(air, 1), 3);
            s.due("ERRAND stays", x.of(air, 2), errand);
            s.due("AT stays", x.of(air, 3), at);
        }
        s.due("another one's FORCE stays", x.of(1, 1), 8);
    }

    private static void mindBad() {
        s.within("mind(air, 0, 0)", Worlds::two, 0, 1, (x, v) -> x.mind(v, 0, 0));
        s.within("mind(air, 0, 0)", Worlds::eight, 0, 7, (x, v) -> x.mind(v, 0, 0));
        s.within("mind(1, kind, 0)", Worlds::two, 0, 5, (x, v) -> x.mind(1, v, 0));
        s.within("mind(1, 0, force)", Worlds::two, 0, 9, (x, v) -> x.mind(1, 0, v));
        s.refused("mind(0, 0, 0) without AIRS", -1, Worlds::fresh, x -> x.mind(0, 0, 0));
    }

    private static void bring() {
        WeatherDisguise x = Worlds.eight();
        int was = x.of(7, 3);
        s.due("bring(7, 15)", x.bring(7, 15), was);
        s.due("bring(7, 0)", x.bring(7, 0), 15);
        s.due("bring(7, 0) again", x.bring(7, 0), 0);
        s.due("those AT 15", x.house(15, 1) & 128, 0);
        s.due("those AT 0", x.house(0, 1) & 128, 128);
        s.due("its ERRAND stays", x.of(7, 2), 8);
    }

    private static void bringBad() {
        s.within("bring(air, 0)", Worlds::two, 0, 1, (x, v) -> x.bring(v, 0));
        s.within("bring(air, 0)", Worlds::eight, 0, 7, (x, v) -> x.bring(v, 0));
        s.within("bring(1, house)", Worlds::two, 0, 15, (x, v) -> x.bring(1, v));
        s.refused("bring(0, 0) without AIRS", -1, Worlds::fresh, x -> x.bring(0, 0));
    }

    private static void send() {
        WeatherDisguise x = Worlds.eight();
        s.due("send(7, 15)", x.send(7, 15), 8);
        s.due("send(7, 0)", x.send(7, 0), 15);
        s.due("send(7, 0) again", x.send(7, 0), 0);
        s.due("of(7, 2)", x.of(7, 2), 0);
        s.due("another one's ERRAND stays", x.of(6, 2), 9);
    }

    private static void sendBad() {
        s.within("send(air, 0)", Worlds::two, 0, 1, (x, v) -> x.send(v, 0));
        s.within("send(air, 0)", Worlds::eight, 0, 7, (x, v) -> x.send(v, 0));
        s.within("send(1, house)", Worlds::two, 0, 15, (x, v) -> x.send(1, v));
        s.refused("send(0, 0) without AIRS", -1, Worlds::fresh, x -> x.send(0, 0));
    }

    private static void blow() {
        WeatherDisguise x = new WeatherDisguise();
        s.due("blow(3)", x.blow(3), 0);
        s.due("blow(3) again", x.blow(3), 3);
        s.due("state(1)", x.state(1), 3);
        s.due("blow(0)", x.blow(0), 3);
        s.due("state(1)", x.state(1), 0);
    }

    private static void pour() {
        WeatherDisguise x = new WeatherDisguise();
        for (int house : new int[] {0, 15}) {
            s.due("pour(" + house + ", 99)", x.pour(house, 99), 0);
            s.due("pour(" + house + ", 1)", x.pour(house, 1), 99);
            s.due("pour(" + house + ", 0)", x.pour(house, 0), 1);
            s.due("house(" + house + ", 0)", x.house(house, 0), 0);
        }
        s.within("pour(6, v)", Worlds::two, 0, 99, (y, v) -> y.pour(6, v));
    }

    private static void pourBad() {
        s.within("pour(house, 5)", Worlds::two, 0, 15, (x, v) -> x.pour(v, 5));
        s.within("pour(6, v)", Worlds::two, 0, 99, (x, v) -> x.pour(6, v));
    }

    private static void house() {
        WeatherDisguise x = new WeatherDisguise();
        s.due("house(0, 1), none is there", x.house(0, 1), 0);
        for (int i = 0; i < 8; i++) {
            x.air(5, 0, 0, 15);
            s.due("house(15, 1) of " + (i + 1), x.house(15, 1), (1 << i + 1) - 1);
        }
        s.due("house(15, 0), dry", x.house(15, 0), 0);
        x.pour(15, 99);
        s.due("house(15, 0)", x.house(15, 0), 99);
        s.due("house(14, 0)", x.house(14, 0), 0);
        s.due("house(14, 1)", x.house(14, 1), 0);
    }

    private static void houseBad() {
        s.within("house(house, 0)", Worlds::two, 0, 15, (x, v) -> x.house(v, 0));
        s.within("house(house, 1)", Worlds::two, 0, 15, (x, v) -> x.house(v, 1));
        s.within("house(3, what)", Worlds::two, 0, 1, (x, v) -> x.house(3, v));
    }

    private static void stateOfStep() {
        WeatherDisguise x = new WeatherDisguise();
        s.due("state(0)", x.state(0), 0);
        x.steps(1);
        s.due("state(0) behind one", x.state(0), 1);
        x.steps(60);
        s.due("state(0) behind 61", x.state(0), 61);
        x.step();
        s.due("state(0) behind a STEP BY DRAWS", x.state(0), 62);
    }

    private static void stateOfWind() {
        WeatherDisguise x = new WeatherDisguise();
        for (int way = 3; way >= 0; way--) {
            x.blow(way);
            s.due("state(1)", x.state(1), way);
        }
    }

    private static void wetTogether() {
        WeatherDisguise x = new WeatherDisguise();
        s.due("state(2) at first", x.state(2), 0);
        for (int house = 0; house < 16; house++) {
            x.pour(house, 99);
            s.due("state(2), HOUSES 0 to " + house + " as WET as may be", x.state(2), 99 * (house + 1));
        }
    }

    private static void housesWithAirs() {
        WeatherDisguise x = new WeatherDisguise();
        s.due("state(3) without AIRS", x.state(3), 0);
        x.air(5, 0, 0, 15);
        s.due("state(3)", x.state(3), 32768);
        x.air(5, 0, 0, 15);
        s.due("state(3), two AT one", x.state(3), 32768);
        x.air(5, 0, 0, 0);
        s.due("state(3)", x.state(3), 32769);
    }

    private static void airsAtErrands() {
        WeatherDisguise x = new WeatherDisguise();
        s.due("state(4) without AIRS", x.state(4), 0);
        for (int i = 0; i < 8; i++) {
            x.air(5, 0, 15, 15);
        }
        s.due("state(4), all eight", x.state(4), 255);
        for (int i = 0; i < 7; i++) {
            x.send(i, 14);
        }
        s.due("state(4), the last alone", x.state(4), 128);
        x.bring(7, 0);
        s.due("state(4), none", x.state(4), 0);
    }

    private static void dampHouses() {
        WeatherDisguise x = new WeatherDisguise();
        x.pour(0, 5);
        x.pour(1, 6);
        x.pour(15, 7);
        s.due("state(5) by DAMP 6", x.state(5), 2 + 32768);
        x.set(1, 0);
        s.due("state(5) by DAMP 0", x.state(5), 65535);
        x.set(1, 1);
        s.due("state(5) by DAMP 1", x.state(5), 3 + 32768);
        x.set(1, 99);
        x.pour(0, 98);
        x.pour(1, 99);
        s.due("state(5) by DAMP 99", x.state(5), 2);
    }

    private static void manyAirs() {
        WeatherDisguise x = new WeatherDisguise();
        for (int i = 0; i < 8; i++) {
            s.due("many(0)", x.many(0), i);
            x.air(0, 0, 0, 0);
        }
        s.due("many(0)", x.many(0), 8);
        x.air(0, 0, 0, 0);
        s.due("many(0) behind a ninth", x.many(0), 8);
    }

    private static void manyAtErrands() {
        WeatherDisguise x = new WeatherDisguise();
        s.due("many(1)", x.many(1), 0);
        for (int i = 0; i < 8; i++) {
            x.air(5, 0, 15 - i, 15 - i);
            s.due("many(1)", x.many(1), i + 1);
        }
        for (int i = 0; i < 8; i++) {
            x.send(i, 3);
            s.due("many(1)", x.many(1), 7 - i);
        }
    }

    private static void manyHouses() {
        WeatherDisguise x = new WeatherDisguise();
        s.due("many(2)", x.many(2), 0);
        for (int i = 0; i < 8; i++) {
            x.air(5, 0, 0, 15);
            s.due("many(2), all AT one", x.many(2), 1);
        }
        for (int i = 0; i < 7; i++) {
            x.bring(i, 2 * i);
            s.due("many(2)", x.many(2), i + 2);
        }
    }

    private static void manyWet() {
        WeatherDisguise x = new WeatherDisguise();
        s.due("many(3)", x.many(3), 0);
        for (int house = 0; house < 16; house++) {
            x.pour(house, house % 2 == 0 ? 1 : 99);
            s.due("many(3)", x.many(3), house + 1);
        }
        x.pour(15, 0);
        s.due("many(3)", x.many(3), 15);
    }

    private static void manyRows() {
        WeatherDisguise x = new WeatherDisguise();
        x.air(5, 0, 0, 0);
        s.due("many(4)", x.many(4), 0);
        x.prove(0, 1);
        s.due("many(4)", x.many(4), 1);
        x.prove(0, 10);
        s.due("many(4)", x.many(4), 10);
        x.prove(0, 11);
        s.due("many(4) behind what is refused", x.many(4), 10);
        x.city();
        s.due("many(4) behind city()", x.many(4), 0);
    }

    private static void manyBytes() {
        WeatherDisguise x = new WeatherDisguise();
        s.due("many(5)", x.many(5), 0);
        x.feed(0, 1);
        s.due("many(5)", x.many(5), 1);
        for (int i = 0; i < 24; i++) {
            x.feed(0, 8);
        }
        s.due("many(5)", x.many(5), 193);
        x.feed(0, 7);
        s.due("many(5)", x.many(5), 200);
        x.feed(0, 1);
        s.due("many(5) behind what is refused", x.many(5), 200);
        x.city();
        s.due("many(5) behind city()", x.many(5), 0);
    }

    private static void manyBodies() {
        WeatherDisguise x = new WeatherDisguise();
        x.air(0, 5, 0, 0);
        x.air(4, 9, 0, 0);
        x.shelf(0, 0, 0);
        x.shelf(1, 0, 1);
        s.due("many(6)", x.many(6), 0);
        x.act(0, 0, 1);
        s.due("many(6) of a single body", x.many(6), 1);
        x.act(1, 3, 1);
        s.due("many(6) of the most that run", x.many(6), 11);
        x.act(2, 3, 1);
        s.due("many(6) behind an act() of nothing", x.many(6), 0);
    }
}
