/** Sentences on refusals: what each of their numbers is for, which of several is named, that nothing changes. */
public final class EdgesOfRefusalsTest {
    private static final int TERMS = Sentences.TERMS;
    private static Sentences s;

    public static void main(String[] args) {
        all(new Sentences("EdgesOfRefusalsTest"));
        s.end();
    }

    static void all(Sentences sentences) {
        s = sentences;
        s.says(TERMS, "Answers below 0, where not told otherwise, are refusals; such a call changes nothing",
            EdgesOfRefusalsTest::changesNothing);
        s.says(TERMS, "of several the first named:", EdgesOfRefusalsTest::theFirstNamed);
        s.says(TERMS, "BAD (-1) there is no such thing, or a number is not as told;", EdgesOfRefusalsTest::bad);
        s.says(TERMS, "FULL (-2);", EdgesOfRefusalsTest::full);
        s.says(TERMS, "NONE (-3);", EdgesOfRefusalsTest::none);
        s.says(TERMS, "and what the host refuses: -11 nothing where something is asked,", EdgesOfRefusalsTest::nothing);
        s.says(TERMS, "-12 a place outside,", EdgesOfRefusalsTest::outside);
        s.says(TERMS, "-13 a thing of another sort or kind,", EdgesOfRefusalsTest::another);
        s.says(TERMS, "-14 a size below 0,", EdgesOfRefusalsTest::below0);
        s.says(TERMS, "-15 parted by 0.", EdgesOfRefusalsTest::partedBy0);
    }

    private static void refused(String call, long want, java.util.function.ToLongFunction<WeatherDisguise> asked) {
        s.refused(call, want, Worlds::eight, asked);
    }

    /** A refusal of each method that has one. */
    private static void changesNothing() {
        refused("feed(-1, 9)", -1, x -> x.feed(-1, 9));
        refused("set(0, 0)", -1, x -> x.set(0, 0));
        refused("lawOf(4)", -1, x -> x.lawOf(4));
        refused("air(6, 0, 0, 0)", -1, x -> x.air(6, 0, 0, 0));
        refused("air(5, 0, 0, 0)", -2, x -> x.air(5, 0, 0, 0));
        refused("of(8, 0)", -1, x -> x.of(8, 0));
        refused("mind(0, 0, 10)", -1, x -> x.mind(0, 0, 10));
        refused("mind(0, 6, 1)", -1, x -> x.mind(0, 6, 1));
        refused("bring(0, 16)", -1, x -> x.bring(0, 16));
        refused("send(0, 16)", -1, x -> x.send(0, 16));
        refused("blow(4)", -1, x -> x.blow(4));
        refused("pour(0, 100)", -1, x -> x.pour(0, 100));
        refused("house(0, 2)", -1, x -> x.house(0, 2));
        refused("steps(61)", -1, x -> x.steps(61));
        refused("blown(31)", -1, x -> x.blown(31));
        refused("state(6)", -1, x -> x.state(6));
        refused("where(0, 61)", -1, x -> x.where(0, 61));
        refused("stops(8)", -1, x -> x.stops(8));
        refused("meets(7, 7)", -1, x -> x.meets(7, 7));
        refused("told(8)", -1, x -> x.told(8));
        refused("off(0, 61)", -1, x -> x.off(0, 61));
        refused("windFor(0, 31)", -1, x -> x.windFor(0, 31));
        refused("kindFor(0, 31)", -1, x -> x.kindFor(0, 31));
        refused("seen(31)", -1, x -> x.seen(31));
        refused("dryWay(0, 16)", -1, x -> x.dryWay(0, 16));
        refused("dryWay(3, 0)", -3, x -> x.dryWay(3, 0));
        refused("fits(0, 0, 2)", -1, x -> x.fits(0, 0, 2));
        refused("odds(8, 9, 0)", -1, x -> x.odds(8, 9, 0));
        refused("hope(100, 0)", -1, x -> x.hope(100, 0));
        refusalsOfThings();
    }

    private static void refusalsOfThings() {
        refused("prove(0, 11)", -1, x -> x.prove(0, 11));
        refused("prove(8, 1)", -1, x -> x.prove(8, 1));
        refused("row(0, 3)", -9, x -> x.row(0, 3));
        refused("alterRow(0, 3, 1)", -9, x -> x.alterRow(0, 3, 1));
        refused("judge(8)", -1, x -> x.judge(8));
        refused("minds(0, 0, 0, 9)", -1, x -> x.minds(0, 0, 0, 9));
        refused("minds(0, 1, 0, 4)", -12, x -> x.minds(0, 1, 0, 4));
        refused("sheet(0, 1, 41)", -1, x -> x.sheet(0, 1, 41));
        refused("sheet(0, 1, -1)", -14, x -> x.sheet(0, 1, -1));
        refused("put(0, 4, 9)", -12, x -> x.put(0, 4, 9));
        refused("put(3, 0, 9)", -11, x -> x.put(3, 0, 9));
        refused("item(0, 0, 4)", -12, x -> x.item(0, 0, 4));
        refused("shelf(0, 0, 8)", -1, x -> x.shelf(0, 0, 8));
        refused("shelf(0, 1, 4)", -1, x -> x.shelf(0, 1, 4));
        refused("shelf(0, 3, 0)", -1, x -> x.shelf(0, 3, 0));
        refused("taken(0, 10)", -13, x -> x.taken(0, 10));
        refused("trace(40)", -3, x -> x.trace(40));
        refused("many(7)", -1, x -> x.many(7));
        s.refused("again()", -3, Worlds::fresh, x -> x.again());
    }

    /** Each of two refusals holds; the one named first under the promise is answered. */
    private static void theFirstNamed() {
        s.refused("feed(0, 9), full", -1, EdgesOfRefusalsTest::fullTape, x -> x.feed(0, 9));
        s.refused("feed(0, 0), full", -1, EdgesOfRefusalsTest::fullTape, x -> x.feed(0, 0));
        s.refused("feed(0, 8), full", -2, EdgesOfRefusalsTest::fullTape, x -> x.feed(0, 8));
        refused("a ninth of KIND 6", -1, x -> x.air(6, 0, 0, 0));
        refused("a ninth with FORCE 10", -1, x -> x.air(0, 10, 0, 0));
        refused("a ninth with ERRAND 16", -1, x -> x.air(0, 0, 16, 0));
        refused("a ninth AT 16", -1, x -> x.air(0, 0, 0, 16));
        refused("dryWay() from a WET one to none", -1, x -> x.dryWay(3, 16));
        refused("dryWay() from none to a WET one", -1, x -> x.dryWay(16, 3));
        refused("fits() of a missing SHEET, none", -1, x -> x.fits(3, 8, 0));
        refused("fits() of a missing SHEET, what 2", -1, x -> x.fits(3, 0, 2));
        refused("minds() of a missing SHEET, none", -1, x -> x.minds(3, 0, 8, 0));
        refused("minds() of a missing SHEET, n 9", -1, x -> x.minds(3, 0, 0, 9));
        refused("minds() of a missing SHEET, beyond the last one", -1, x -> x.minds(3, 0, 7, 2));
        refused("minds() of shorts, beyond the last one", -1, x -> x.minds(1, 0, 7, 2));
        refused("minds() outside, beyond the last one", -1, x -> x.minds(0, 5, 7, 2));
        refused("minds() of a missing SHEET, outside", -11, x -> x.minds(3, -1, 0, 1));
        refused("minds() of shorts, outside", -13, x -> x.minds(1, 41, 0, 1));
        refused("sheet() of sort 4, n -1", -1, x -> x.sheet(0, 4, -1));
        refused("sheet() of no such SHEET, n -1", -1, x -> x.sheet(4, 0, -1));
        refused("put() outside of no such SHEET", -1, x -> x.put(4, -1, 0));
        refused("put() outside of a missing SHEET", -11, x -> x.put(3, -1, 0));
        refused("item() of a missing SHEET, sort 4", -1, x -> x.item(3, 4, 0));
        refused("item() of a missing SHEET, outside", -11, x -> x.item(3, 0, -1));
        refused("item() of another sort, outside", -13, x -> x.item(0, 1, 4));
        refused("item() of sort 4, outside", -1, x -> x.item(0, 4, 4));
        refused("taken() of nothing, as 6", -1, x -> x.taken(3, 6));
        refused("taken() of rain, as 14", -1, x -> x.taken(0, 14));
    }

    private static WeatherDisguise fullTape() {
        WeatherDisguise x = Worlds.two();
        x.city();
        for (int i = 0; i < 25; i++) {
            x.feed(0x2020202020202020L, 8);
        }
        return x;
    }

    private static void bad() {
        s.due("WeatherDisguise.BAD", WeatherDisguise.BAD, -1);
        s.due("there is no such thing", Worlds.eight().of(8, 0), -1);
        s.due("there is such a thing", Worlds.eight().of(7, 0), 4);
        s.due("a number is not as told", Worlds.eight().blow(4), -1);
        s.due("a number is as told", Worlds.eight().blow(3), 2);
    }

    private static void full() {
        s.due("WeatherDisguise.FULL", WeatherDisguise.FULL, -2);
        s.due("a ninth", Worlds.eight().air(0, 0, 0, 0), -2);
        s.due("a third", Worlds.two().air(0, 0, 0, 0), 2);
        s.due("201 bytes", fullTape().feed(0, 1), -2);
    }

    private static void none() {
        s.due("WeatherDisguise.NONE", WeatherDisguise.NONE, -3);
        s.due("nothing is kept", new WeatherDisguise().again(), -3);
        s.due("there is no TRACE", new WeatherDisguise().trace(0), -3);
    }

    private static void nothing() {
        s.due("item() of a missing SHEET", Worlds.two().item(3, 0, 0), -11);
        s.due("put() to a missing SHEET", Worlds.two().put(3, 0, 0), -11);
        s.due("fits() by a missing SHEET", Worlds.two().fits(3, 0, 0), -11);
        s.due("minds() by a missing SHEET", Worlds.two().minds(3, 0, 0, 0), -11);
        s.due("taken() of nothing", Worlds.two().taken(3, 0), -11);
    }

    private static void outside() {
        s.due("item()", Worlds.two().item(0, 0, 4), -12);
        s.due("put()", Worlds.two().put(0, 4, 0), -12);
        s.due("minds()", Worlds.two().minds(0, 4, 0, 1), -12);
        s.due("item() inside", Worlds.two().item(0, 0, 3), -2);
        s.due("put() inside", Worlds.two().put(0, 3, 0), 1);
        s.due("minds() inside", Worlds.two().minds(0, 3, 0, 1), 1);
    }

    private static void another() {
        s.due("item()", Worlds.two().item(0, 1, 0), -13);
        s.due("minds()", Worlds.two().minds(1, 0, 0, 0), -13);
        s.due("taken() for another KIND", Worlds.two().taken(0, 3), -13);
        s.due("taken() for a row of another sort", Worlds.two().taken(1, 10), -13);
    }

    private static void below0() {
        s.due("sheet(0, 0, -1)", Worlds.two().sheet(0, 0, -1), -14);
        s.due("sheet(0, 0, 0)", Worlds.two().sheet(0, 0, 0), 1);
    }

    private static void partedBy0() {
        WeatherDisguise x = new WeatherDisguise();
        x.air(0, 0, 0, 0);
        x.shelf(0, 0, 0);
        s.due("parts() of one numbered 0 with FORCE 0", x.act(0, 2, 1), -15);
        x.mind(0, 0, 1);
        s.due("parts() of one numbered 0 with FORCE 1", x.act(0, 2, 1), 1);
    }
}
