/** Counts the answers that are not the due ones, and ends a test by that. */
final class Check {
    private static final int MOST_SHOWN = 40;

    private final String test;
    private int checked = 0;
    private int wrong = 0;

    Check(String test) {
        this.test = test;
    }

    void due(String call, long got, long want) {
        checked++;
        if (got == want) {
            return;
        }
        wrong++;
        if (wrong <= MOST_SHOWN) {
            System.out.println(test + ": " + call + " answered " + got + ", due is " + want);
        }
    }

    void holds(String claim, boolean does) {
        due(claim, does ? 1 : 0, 1);
    }

    int looked() {
        return checked;
    }

    boolean isWrong() {
        return wrong > 0;
    }

    void end() {
        System.out.println(test + ": " + checked + " answers looked at, " + wrong + " wrong");
        if (wrong > 0 || checked == 0) {
            System.exit(1);
        }
    }
}
