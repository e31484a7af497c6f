import java.util.ArrayList;
import java.util.List;

/** Sentences that name a boundary of THE TAPE and its TEXT: Terms, promises 2 and 3. */
public final class EdgesOfTapeTest {
    private static final int TERMS = Sentences.TERMS;
    private static final long BLANKS = 0x2020202020202020L;
    private static final String[] KINDS = {"air", "rain", "fog", "drizzle", "mist", "heat"};
    private static final String[] LAWS = {"turn", "damp", "shy", "gust"};
    private static final int[] LAW_LEAST = {1, 0, 0, 0}, LAW_MOST = {9, 99, 9, 99}, LAW_FIRST = {3, 6, 2, 20};
    /** Every form of a TEXT, all of its NUMBERS in range, in words parted by a blank. */
    private static final String[] FORMS = {
        "air at 5 ;", "rain at 0 force 9 ;", "fog at 15 errand 15 ;", "drizzle at 5 force 0 errand 0 ;",
        "mist at 5 force 3 errand 9 ;", "heat at 12 ;", "wet 15 is 99 ;", "wind 3 ;", "turn 9 ;", "damp 99 ;",
        "shy 9 ;", "gust 99 ;"};
    private static final String EIGHT = "air at 1;air at 2;air at 3;air at 4;air at 5;air at 6;air at 7;air at 8;";
    private static Sentences s;

    public static void main(String[] args) {
        all(new Sentences("EdgesOfTapeTest"));
        s.end();
    }

    static void all(Sentences sentences) {
        s = sentences;
        bytes();
        texts();
        faults();
    }

    private static void bytes() {
        s.says(TERMS, "THE TAPE takes bytes, 200 at most;", EdgesOfTapeTest::all200AreRead);
        s.says(TERMS, "city() uses it up.", EdgesOfTapeTest::usedUp);
        s.says(TERMS, "(but that THE TAPE is used up by city())", EdgesOfTapeTest::usedUpByAFault);
        s.says(2, "n bytes (1 to 8) come to THE TAPE,", EdgesOfTapeTest::oneToEight);
        s.says(2, "the lowest of eight first:", EdgesOfTapeTest::theLowestFirst);
        s.says(2, "how many it has.", EdgesOfTapeTest::howManyItHas);
        s.says(2, "BAD;", () -> s.within("feed(32, n)", Worlds::two, 1, 8, (x, v) -> x.feed(32, v)));
        s.says(2, "FULL: more than 200.", EdgesOfTapeTest::full);
    }

    private static void texts() {
        s.says(TERMS, "TEXT: { KIND at N [ force N ] [ errand N ] ;", EdgesOfTapeTest::textOfAnAir);
        s.says(TERMS, "| wet N is N ;", () -> s.due("city()", Texts.city(Worlds.fresh(), "wet 0 is 0 ;wet 15 is 99;"), 0));
        s.says(TERMS, "| wind N ;", () -> s.due("city()", Texts.city(Worlds.fresh(), "wind 0;wind 3 ;"), 0));
        s.says(TERMS, "| turn N ;", () -> s.due("city()", Texts.city(Worlds.fresh(), "turn 1;turn 9 ;"), 0));
        s.says(TERMS, "| damp N ;", () -> s.due("city()", Texts.city(Worlds.fresh(), "damp 0;damp 99 ;"), 0));
        s.says(TERMS, "| shy N ;", () -> s.due("city()", Texts.city(Worlds.fresh(), "shy 0;shy 9 ;"), 0));
        s.says(TERMS, "| gust N ; }", () -> s.due("city()", Texts.city(Worlds.fresh(), "gust 0;gust 99 ;"), 0));
        s.says(TERMS, "KIND (air | rain | fog | drizzle | mist | heat): one more AT a HOUSE;", EdgesOfTapeTest::kinds);
        s.says(TERMS, "FORCE (3 without),", EdgesOfTapeTest::forceWithout);
        s.says(TERMS, "ERRAND (0 without).", EdgesOfTapeTest::errandWithout);
        s.says(TERMS, "wet: how WET a HOUSE is.", EdgesOfTapeTest::wet);
        s.says(TERMS, "wind: the way.", EdgesOfTapeTest::wind);
        s.says(TERMS, "The others: the LAW.", EdgesOfTapeTest::laws);
        s.says(TERMS, "It is all by it alone (what it doesn't tell is as at first);", EdgesOfTapeTest::byItAlone);
        s.says(TERMS, "z stays.", EdgesOfTapeTest::zStays);
        s.says(3, "THE TAPE becomes all: how many AIRS;", EdgesOfTapeTest::howManyAirs);
        s.says(3, "-100 less its FAULT.", EdgesOfTapeTest::lessItsFault);
        s.says(3, "There are no ROWS then.", EdgesOfTapeTest::noRowsThen);
    }

    private static void faults() {
        s.says(TERMS, "NAMES are rows of letters a to z,", EdgesOfTapeTest::letters);
        s.says(TERMS, "NUMBERS rows of digits (1 to 3),", EdgesOfTapeTest::digits);
        s.says(TERMS, "both as long as they go;", EdgesOfTapeTest::asLongAsTheyGo);
        s.says(TERMS, "blanks (32) part them, and stand elsewhere as one likes.", EdgesOfTapeTest::blanks);
        s.says(TERMS, "FAULT: the place (from 0) of the first byte of the first NAME, NUMBER or other byte that can't"
            + " stand there", EdgesOfTapeTest::whatCannotStandThere);
        s.says(TERMS, "or is not as told (a NUMBER out of range,", EdgesOfTapeTest::outOfRange);
        s.says(TERMS, "of more digits;", EdgesOfTapeTest::moreDigits);
        s.says(TERMS, "the NAME of a ninth one),", EdgesOfTapeTest::theNinth);
        s.says(TERMS, "or the end (how many bytes there are), if more must come.", EdgesOfTapeTest::theEnd);
    }

    private static WeatherDisguise fed(String text) {
        WeatherDisguise x = Worlds.two();
        x.city();
        x.air(5, 1, 2, 3);
        x.prove(0, 4);
        Texts.feed(x, text);
        return x;
    }

    /** A FAULT: the answer, THE TAPE used up, and nothing else changed. */
    private static void fault(String text, int place) {
        String call = "city() of '" + text + "'";
        WeatherDisguise x = fed(text);
        s.due(call, x.city(), -100 - place);
        s.same(call + " changes nothing", Whole.told(x), Whole.told(fed("")));
    }

    private static String blanks(int n) {
        return " ".repeat(n);
    }

    private static void all200AreRead() {
        WeatherDisguise x = new WeatherDisguise();
        s.due("200 bytes", Texts.feed(x, blanks(194) + "shy 9;"), 200);
        s.due("city()", x.city(), 0);
        s.due("lawOf(2)", x.lawOf(2), 9);
        fault(blanks(195) + "shy 9", 200);
        fault(blanks(194) + "shy 9:", 199);
        fault(blanks(200 - 11) + "wind 1;wind", 200);
        s.due("199 bytes", Texts.feed(x, blanks(193) + "shy 8;"), 199);
        s.due("city()", x.city(), 0);
        s.due("lawOf(2)", x.lawOf(2), 8);
        Texts.feed(x, blanks(194) + "shy 7;");
        s.refused("feed() of one more", -2, () -> fed(blanks(194) + "shy 7;"), y -> y.feed(59, 1));
    }

    private static void usedUp() {
        WeatherDisguise x = new WeatherDisguise();
        Texts.feed(x, "fog at 3;");
        x.city();
        s.due("many(5)", x.many(5), 0);
        s.due("city() of nothing", x.city(), 0);
        s.due("many(0)", x.many(0), 0);
        Texts.feed(x, blanks(200));
        s.due("city() of blanks", x.city(), 0);
        s.due("200 bytes once more", Texts.feed(x, blanks(199) + ";"), 200);
        s.due("city() of these", x.city(), -299);
    }

    private static void usedUpByAFault() {
        WeatherDisguise x = fed("fog at 16;");
        s.due("city()", x.city(), -107);
        s.due("many(5)", x.many(5), 0);
        s.due("feed() then", Texts.feed(x, "fog at 1;"), 9);
        s.due("city() then", x.city(), 1);
        s.due("AT", x.of(0, 3), 1);
        fault("fog at 16;", 7);
    }

    private static void oneToEight() {
        int[] city = {-100, -100, -100, -104, -105, -106, 0, -107};
        for (int n = 1; n <= 8; n++) {
            WeatherDisguise x = new WeatherDisguise();
            s.due("feed(.., " + n + ")", x.feed(Texts.eightFrom("wind 1;;", 0, 8), n), n);
            s.due("many(5)", x.many(5), n);
            s.due("city() of '" + "wind 1;;".substring(0, n) + "'", x.city(), city[n - 1]);
        }
        s.within("feed(32, n)", Worlds::two, 1, 8, (x, v) -> x.feed(32, v));
    }

    private static void theLowestFirst() {
        WeatherDisguise x = new WeatherDisguise();
        x.feed(0x2074612074616568L, 8);
        x.feed(0x3b35L, 2);
        s.due("city() of 'heat at 5;'", x.city(), 1);
        s.due("AT", x.of(0, 3), 5);
        x.feed(0xff20202020202020L, 8);
        s.due("city(), the byte 255 behind seven blanks", x.city(), -107);
        x.feed(0x20202020202020ffL, 8);
        s.due("city(), the byte 255 before seven blanks", x.city(), -100);
        x.feed(0xff20202020202020L, 7);
        s.due("city(), the byte 255 is left out", x.city(), 0);
    }

    private static void howManyItHas() {
        WeatherDisguise x = new WeatherDisguise();
        int has = 0;
        for (int n = 1; n <= 8; n++) {
            has += n;
            s.due("feed(.., " + n + ")", x.feed(BLANKS, n), has);
        }
        s.due("feed(.., 9)", x.feed(BLANKS, 9), -1);
        s.due("feed(.., 1)", x.feed(BLANKS, 1), has + 1);
        s.due("many(5)", x.many(5), has + 1);
    }

    private static void full() {
        for (int left = 0; left <= 8; left++) {
            int had = 200 - left;
            for (int n = 1; n <= 8; n++) {
                int one = n;
                if (n <= left) {
                    s.due("feed(.., " + n + ") behind " + had, fed(blanks(had)).feed(BLANKS, n), had + n);
                } else {
                    s.refused("feed(.., " + n + ") behind " + had, -2, () -> fed(blanks(had)),
                        x -> x.feed(0x3b3b3b3b3b3b3b3bL, one));
                }
            }
        }
        WeatherDisguise x = fed(blanks(199));
        s.due("feed(.., 2) behind 199", x.feed(BLANKS, 2), -2);
        s.due("feed(.., 1) behind that", x.feed(BLANKS, 1), 200);
        s.due("city()", x.city(), 0);
    }

    private static void textOfAnAir() {
        String[] texts = {"heat at 3;", "heat at 3 force 9;", "heat at 3 errand 15;", "heat at 3 force 9 errand 15;"};
        for (int i = 0; i < texts.length; i++) {
            WeatherDisguise x = new WeatherDisguise();
            s.due("city() of '" + texts[i] + "'", Texts.city(x, texts[i]), 1);
            s.due("FORCE", x.of(0, 1), i % 2 == 1 ? 9 : 3);
            s.due("ERRAND", x.of(0, 2), i >= 2 ? 15 : 0);
        }
        fault("heat at 3 errand 15 force 9;", 20);
        fault("heat at 3 force 9 force 9;", 18);
        fault("heat at 3 errand 15 errand 15;", 20);
        fault("heat force 9 at 3;", 5);
        s.due("none of them at all", Texts.city(Worlds.two(), ""), 1);
        s.due("none of them at all", Texts.city(Worlds.fresh(), ""), 0);
        fault(";", 0);
        fault("heat at 3;;", 10);
    }

    private static void kinds() {
        for (int kind = 0; kind < 6; kind++) {
            WeatherDisguise x = new WeatherDisguise();
            s.due("city() of two " + KINDS[kind], Texts.city(x, "heat at 2;" + KINDS[kind] + " at 15;"), 2);
            s.due("KIND", x.of(1, 0), kind);
            s.due("AT", x.of(1, 3), 15);
            s.due("the one before", x.of(0, 3), 2);
        }
        fault("snow at 15;", 0);
    }

    private static void forceWithout() {
        WeatherDisguise x = new WeatherDisguise();
        Texts.city(x, "fog at 1 force 9;fog at 1;fog at 1 errand 4;fog at 1 force 0;fog at 1;");
        int[] forces = {9, 3, 3, 0, 3};
        for (int i = 0; i < 5; i++) {
            s.due("of(" + i + ", 1)", x.of(i, 1), forces[i]);
        }
    }

    private static void errandWithout() {
        WeatherDisguise x = new WeatherDisguise();
        Texts.city(x, "fog at 1 errand 15;fog at 1;fog at 1 force 4;fog at 1 errand 0;fog at 1 force 4 errand 1;");
        int[] errands = {15, 0, 0, 0, 1};
        for (int i = 0; i < 5; i++) {
            s.due("of(" + i + ", 2)", x.of(i, 2), errands[i]);
        }
    }

    private static void wet() {
        for (int house = 0; house < 16; house++) {
            WeatherDisguise x = new WeatherDisguise();
            s.due("city()", Texts.city(x, "wet " + house + " is " + (99 - house) + ";"), 0);
            s.due("house(" + house + ", 0)", x.house(house, 0), 99 - house);
            s.due("all together", x.state(2), 99 - house);
        }
    }

    private static void wind() {
        for (int way = 0; way < 4; way++) {
            WeatherDisguise x = new WeatherDisguise();
            s.due("city()", Texts.city(x, "wind " + way + ";"), 0);
            s.due("state(1)", x.state(1), way);
        }
    }

    private static void laws() {
        for (int law = 0; law < 4; law++) {
            for (int v : new int[] {LAW_LEAST[law], LAW_MOST[law]}) {
                WeatherDisguise x = new WeatherDisguise();
                s.due("city()", Texts.city(x, LAWS[law] + " " + v + ";"), 0);
                for (int other = 0; other < 4; other++) {
                    s.due("lawOf(" + other + ")", x.lawOf(other), other == law ? v : LAW_FIRST[other]);
                }
            }
        }
    }

    /** Nothing is as at first, THE TAPE is empty. */
    private static WeatherDisguise changed() {
        WeatherDisguise x = Worlds.eight();
        x.city();
        for (int i = 0; i < 7; i++) {
            x.air(i % 6, 9 - i, i, i);
        }
        x.steps(9);
        x.blow(3);
        for (int law = 0; law < 4; law++) {
            x.set(law, LAW_MOST[law]);
        }
        for (int house = 0; house < 16; house++) {
            x.pour(house, 99 - house);
        }
        return x;
    }

    private static void asAtFirstBut(WeatherDisguise x, int law, int v) {
        for (int i = 0; i < 4; i++) {
            s.due("lawOf(" + i + ")", x.lawOf(i), i == law ? v : LAW_FIRST[i]);
        }
        for (int what = 0; what < 5; what++) {
            s.due("state(" + what + ")", x.state(what), 0);
        }
        for (int i = 0; i < 8; i++) {
            s.due("of(" + i + ", 0)", x.of(i, 0), -1);
        }
        s.due("many(0)", x.many(0), 0);
        s.due("one more", x.air(0, 0, 0, 0), 0);
        x.steps(4);
        s.due("WIND turns as of STEP 0", x.state(1), law == 0 && v > 3 ? 0 : 1);
    }

    private static void byItAlone() {
        WeatherDisguise x = changed();
        s.due("city() of nothing", x.city(), 0);
        asAtFirstBut(x, -1, 0);
        for (int law = 0; law < 4; law++) {
            x = changed();
            s.due("city() of a LAW", Texts.city(x, LAWS[law] + " 4;"), 0);
            asAtFirstBut(x, law, 4);
        }
        x = changed();
        s.due("city() of one", Texts.city(x, "fog at 9;"), 1);
        s.due("of(0, 0)", x.of(0, 0), 2);
        s.due("of(1, 0)", x.of(1, 0), -1);
        s.due("state(0)", x.state(0), 0);
        s.due("state(1)", x.state(1), 0);
        x = changed();
        s.due("city() of a WET HOUSE", Texts.city(x, "wet 9 is 8;"), 0);
        s.due("state(2)", x.state(2), 8);
        s.due("state(1)", x.state(1), 0);
        x = changed();
        s.due("city() of WIND", Texts.city(x, "wind 2;"), 0);
        s.due("state(2)", x.state(2), 0);
        s.due("state(1)", x.state(1), 2);
    }

    private static void zStays() {
        for (int z : new int[] {0, -1, Integer.MIN_VALUE, Integer.MAX_VALUE}) {
            WeatherDisguise x = new WeatherDisguise();
            x.seed(z);
            Texts.city(x, "air at 5;");
            s.due("z behind city()", x.seed(z), z);
            Texts.city(x, "air at 16;");
            s.due("z behind a FAULT", x.seed(z), z);
        }
    }

    private static void howManyAirs() {
        for (int n = 0; n <= 8; n++) {
            WeatherDisguise x = Worlds.two();
            x.city();
            s.due("city() of " + n, Texts.city(x, EIGHT.substring(0, 9 * n)), n);
            s.due("many(0)", x.many(0), n);
            s.due("the last one's place", x.of(n - 1, 3), n == 0 ? -1 : n);
            s.due("none is behind it", x.of(n, 3), -1);
        }
    }

    private static void lessItsFault() {
        fault("?", 0);
        fault(" ?", 1);
        fault(blanks(99) + "?", 99);
        fault(blanks(199) + "?", 199);
        fault(blanks(194) + "shy 10", 198);
        fault(blanks(195) + "shy 9", 200);
        fault("shy", 3);
    }

    private static void noRowsThen() {
        WeatherDisguise x = fed("air at 1;");
        s.due("many(4) before", x.many(4), 4);
        s.due("city()", x.city(), 1);
        s.due("many(4)", x.many(4), 0);
        s.due("row(0, 0)", x.row(0, 0), -9);
        s.due("judge(0)", x.judge(0), 0);
        x = fed("air at 16;");
        s.due("city() with a FAULT", x.city(), -107);
        s.due("many(4) then", x.many(4), 4);
        s.due("row(3, 0) then", x.row(3, 0), 3);
    }

    /** All NAMES of a TEXT, each where it may stand. */
    private static List<String[]> names() {
        List<String[]> names = new ArrayList<>();
        for (String kind : KINDS) {
            names.add(new String[] {"", kind, " at 5;"});
        }
        for (String law : LAWS) {
            names.add(new String[] {"", law, " 5;"});
        }
        names.add(new String[] {"", "wind", " 2;"});
        names.add(new String[] {"", "wet", " 5 is 5;"});
        names.add(new String[] {"wet 5 ", "is", " 5;"});
        names.add(new String[] {"fog ", "at", " 5;"});
        names.add(new String[] {"fog at 5 ", "force", " 5;"});
        names.add(new String[] {"fog at 5 ", "errand", " 5;"});
        return names;
    }

    private static void letters() {
        for (String[] name : names()) {
            String before = name[0];
            String word = name[1];
            int place = before.length();
            int last = word.length() - 1;
            s.holds("city() of '" + before + word + name[2] + "'",
                Texts.city(Worlds.fresh(), before + word + name[2]) >= 0);
            fault(before + (char) (word.charAt(0) - 32) + word.substring(1) + name[2], place);
            fault(before + word.substring(0, last) + (char) (word.charAt(last) - 32) + name[2], place);
            for (int i = 0; i <= last; i++) {
                String other = word.charAt(i) == 'z' ? "y" : "z";
                fault(before + word.substring(0, i) + other + word.substring(i + 1) + name[2], place);
            }
            fault(before + word.substring(0, last) + "`" + name[2], place);
            fault(before + word.substring(0, last) + "{" + name[2], place);
            fault(before + word + "`" + name[2], place + last + 1);
            fault(before + word + "{" + name[2], place + last + 1);
        }
        fault("zzz", 0);
        fault("aaa", 0);
        fault("fog at 5 z", 9);
    }

    private static void digits() {
        WeatherDisguise x = new WeatherDisguise();
        s.due("city()", Texts.city(x, "heat at 0 force 0 errand 0; wet 9 is 9;wet 10 is 10;wet 015 is 099;"), 1);
        s.due("house(9, 0)", x.house(9, 0), 9);
        s.due("house(10, 0)", x.house(10, 0), 10);
        s.due("house(15, 0)", x.house(15, 0), 99);
        s.due("three digits", Texts.city(x, "heat at 009 force 000 errand 010;"), 1);
        s.due("AT", x.of(0, 3), 9);
        s.due("FORCE", x.of(0, 1), 0);
        s.due("ERRAND", x.of(0, 2), 10);
        fault("heat at 0009;", 8);
        fault("heat at ;", 8);
        fault("heat at /;", 8);
        fault("heat at :;", 8);
        fault("heat at 1/;", 9);
        fault("heat at 1:;", 9);
        fault("heat at -1;", 8);
        fault("heat at +1;", 8);
    }

    private static void asLongAsTheyGo() {
        for (String[] name : names()) {
            fault(name[0] + name[1] + "s" + name[2], name[0].length());
            fault(name[0] + name[1].substring(0, name[1].length() - 1) + name[2], name[0].length());
        }
        fault("fogat 5;", 0);
        fault("fog at 5 forceerrand 5;", 9);
        fault("fog at 15 5;", 10);
        fault("fog at 1 5;", 9);
        fault("fog at 155;", 7);
        fault("wet 1 is 1 5;", 11);
        fault("win d 1;", 0);
        s.due("of two digits", Texts.city(Worlds.fresh(), "fog at 15;"), 1);
    }

    private static void blanks() {
        for (String form : FORMS) {
            WeatherDisguise x = new WeatherDisguise();
            WeatherDisguise y = new WeatherDisguise();
            String wide = "   " + form.replace(" ", "    ") + "   ";
            s.due("city() of '" + wide + "'", Texts.city(x, wide), Texts.city(y, form));
            s.same("the same with more blanks", Whole.told(x), Whole.told(y));
            s.due("no blank before ;", Texts.city(x, form.replace(" ;", ";")), y.many(0));
            s.same("the same without that blank", Whole.told(x), Whole.told(y));
        }
        for (char other : new char[] {0, 9, 10, 13, 31, 33, 127, 160, 255}) {
            fault("fog" + other + "at 5;", 3);
            fault(other + "fog at 5;", 0);
            fault("fog at 5;" + other, 9);
        }
        s.due("a TEXT of a single blank", Texts.city(Worlds.fresh(), " "), 0);
        s.due("a TEXT of 200 blanks", Texts.city(Worlds.fresh(), blanks(200)), 0);
        s.due("nothing between two sentences", Texts.city(Worlds.fresh(), "fog at 5;fog at 6;"), 2);
    }

    private static void whatCannotStandThere() {
        for (String form : FORMS) {
            String[] words = form.split(" ");
            for (int i = 0; i < words.length; i++) {
                StringBuilder before = new StringBuilder();
                for (int j = 0; j < i; j++) {
                    before.append(words[j]).append(' ');
                }
                for (String wrong : new String[] {"zz", "0000", "Z", "\u00e9", ",", "\u0000"}) {
                    fault(before + wrong + " ;", before.length());
                    fault("fog at 1 ;" + before + wrong, 10 + before.length());
                }
                if (!words[i].equals(";") && !words[i].equals("force") && !words[i].equals("errand")) {
                    fault(before + ";", before.length());
                }
                String behind = form.substring(before.length() + words[i].length());
                fault(before + behind.trim(), before.length());
                fault(before + words[i] + " " + words[i] + behind, before.length() + words[i].length() + 1);
            }
            fault(form + "?", form.length());
        }
        fault("fog at 16; Fog", 7);
        fault("wet 16 is 100;", 4);
        fault("wind 4;turn 0;", 5);
    }

    private static void outOfRange() {
        range("fog at ", 0, 15);
        range("fog at 5 force ", 0, 9);
        range("fog at 5 errand ", 0, 15);
        range("fog at 5 force 5 errand ", 0, 15);
        range("wet 5 is ", 0, 99);
        range("wind ", 0, 3);
        for (int law = 0; law < 4; law++) {
            range(LAWS[law] + " ", LAW_LEAST[law], LAW_MOST[law]);
        }
        for (int house = 0; house < 16; house++) {
            s.due("wet " + house, Texts.city(Worlds.fresh(), "wet " + house + " is 0;"), 0);
        }
        fault("wet 16 is 0;", 4);
        fault("wet 999 is 0;", 4);
    }

    private static void range(String before, int least, int most) {
        for (int v : new int[] {least, most}) {
            s.holds(before + v, Texts.city(Worlds.fresh(), before + v + ";") >= 0);
            s.holds(before + "0" + v, Texts.city(Worlds.fresh(), before + "0" + v + ";") >= 0);
        }
        fault(before + (most + 1) + ";", before.length());
        fault(before + "100;", before.length());
        fault(before + "999;", before.length());
        fault("shy 2;" + before + (most + 1), 6 + before.length());
        if (least > 0) {
            fault(before + (least - 1) + ";", before.length());
            fault(before + "000;", before.length());
        }
    }

    private static void moreDigits() {
        String[] before = {"fog at ", "fog at 5 force ", "fog at 5 errand ", "wet 5 is ", "wind ", "turn ", "damp ", "shy ",
            "gust "};
        for (String text : before) {
            s.holds(text + "001", Texts.city(Worlds.fresh(), text + "001;") >= 0);
            fault(text + "0001;", text.length());
            fault(text + "1000;", text.length());
            fault(text + "4294967297;", text.length());
        }
        s.due("wet 001 is", Texts.city(Worlds.fresh(), "wet 001 is 001;"), 0);
        fault("wet 0001 is 1;", 4);
        fault("wind " + "0".repeat(194) + "1", 5);
    }

    private static void theNinth() {
        s.due("eight", Texts.city(Worlds.fresh(), EIGHT), 8);
        s.due("eight, and what is no AIR", Texts.city(Worlds.fresh(), EIGHT + "wet 1 is 2;wind 3;turn 9;damp 1;shy 1;"),
            8);
        for (String kind : KINDS) {
            fault(EIGHT + kind + " at 9;", 72);
            fault(EIGHT + "  " + kind, 74);
            fault(EIGHT + "wind 3;" + kind + " at 99;", 79);
        }
        s.due("one, where there were eight before", Texts.city(Worlds.eight(), ""), 1);
    }

    private static void theEnd() {
        for (String form : FORMS) {
            String[] words = form.split(" ");
            String cut = "";
            for (int i = 0; i + 1 < words.length; i++) {
                cut += words[i];
                fault(cut, cut.length());
                fault(cut + " ", cut.length() + 1);
                fault("wind 1;" + cut + "  ", cut.length() + 9);
                cut += " ";
            }
            s.holds("a whole one is no FAULT", Texts.city(Worlds.fresh(), cut + ";") >= 0);
        }
        fault("fog at 5 force", 14);
        fault("fog at 5 errand", 15);
        fault("fog at 5 force 1 errand", 23);
    }
}
