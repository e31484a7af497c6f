import java.util.ArrayList;
import java.util.List;
import java.util.function.Supplier;
import java.util.function.ToLongFunction;

/** Sentences of the document, each quoted by its own words and with a test of its own. */
final class Sentences {
    /** Where a sentence stands: under a promise (1 to 45), or in one of these. */
    static final int WHAT_IT_IS = -1, TERMS = 0;

    /** A number asked of an object with one argument left open. */
    interface Asked {
        long of(WeatherDisguise x, int v);
    }

    private final Check check;
    private final List<String> quotes = new ArrayList<>();
    private final List<Integer> places = new ArrayList<>();
    private String now = "";

    /** Sentences that are tested, or (test null) listed alone. */
    Sentences(String test) {
        check = test == null ? null : new Check(test);
    }

    void says(int promise, String words, Runnable test) {
        quotes.add(words);
        places.add(promise);
        if (check == null) {
            return;
        }
        now = (promise > 0 ? "Promise " + promise : promise == TERMS ? "Terms" : "What it is") + ", \"" + words + "\": ";
        int before = check.looked();
        test.run();
        check.holds(now + "some answer is looked at", check.looked() > before);
    }

    int size() {
        return quotes.size();
    }

    String quote(int i) {
        return quotes.get(i);
    }

    int place(int i) {
        return places.get(i);
    }

    void due(String call, long got, long want) {
        check.due(now + call, got, want);
    }

    void holds(String claim, boolean does) {
        check.holds(now + claim, does);
    }

    /** A call that is refused, and changes nothing that can be asked. */
    void refused(String call, long want, Supplier<WeatherDisguise> made, ToLongFunction<WeatherDisguise> asked) {
        WeatherDisguise x = made.get();
        due(call, asked.applyAsLong(x), want);
        same(call + " changes nothing", Whole.told(x), Whole.told(made.get()));
        x = made.get();
        asked.applyAsLong(x);
        same(call + " changes nothing", Whole.keptAndTape(x), Whole.keptAndTape(made.get()));
    }

    void same(String claim, List<String> got, List<String> want) {
        for (int i = 0; i < Math.min(got.size(), want.size()); i++) {
            holds(claim + ", but " + got.get(i) + " is for " + want.get(i), got.get(i).equals(want.get(i)));
        }
        due(claim + ", how much is told", got.size(), want.size());
    }

    /** Numbers that are BAD, and change nothing. */
    void bad(String call, Supplier<WeatherDisguise> made, Asked asked, int... numbers) {
        for (int v : numbers) {
            refused(call + " of " + v, WeatherDisguise.BAD, made, x -> asked.of(x, v));
        }
    }

    /** A number that is taken from least to most, and BAD one beyond on either side and far beyond. */
    void within(String call, Supplier<WeatherDisguise> made, int least, int most, Asked asked) {
        for (int v : new int[] {least, most}) {
            long answer = asked.of(made.get(), v);
            holds(call + " of " + v + " is taken, but answered " + answer, answer >= 0);
        }
        bad(call, made, asked, least - 1, most + 1, Integer.MIN_VALUE, Integer.MAX_VALUE);
    }

    void end() {
        check.end();
    }
}
