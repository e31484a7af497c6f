import java.math.BigInteger;
import java.util.ArrayDeque;
import java.util.ArrayList;
import java.util.List;
import java.util.regex.Matcher;
import java.util.regex.Pattern;

/**
 * The document once more, written in another way than the program (things of classes of their own, exceptions,
 * searches through all cases), so that the two can be held against each other.
 */
public final class Model {
    private static final int BAD = -1, FULL = -2, NONE = -3;

    private static final class Refused extends RuntimeException {
        private static final long serialVersionUID = 1L;
        final int answer;

        Refused(int answer) {
            super(null, null, false, false);
            this.answer = answer;
        }
    }

    private static class Thing {
        static final List<Integer> TRACE = new ArrayList<>();
        int n, force, errand, at;

        int kind() {
            return 0;
        }

        int dx(City c) {
            return c.wind == 0 ? 1 : c.wind == 2 ? -1 : 0;
        }

        int dy(City c) {
            return c.wind == 1 ? 1 : c.wind == 3 ? -1 : 0;
        }

        int wets() {
            return 0;
        }

        /** The HOUSE to which it goes. */
        final int goal(City c) {
            int column = at % 4 + dx(c);
            int row = at / 4 + dy(c);
            return column < 0 || column > 3 || row < 0 || row > 3 ? at : 4 * row + column;
        }

        final void begins(int body) {
            TRACE.add(body);
        }

        int drifts(int x) {
            begins(10);
            return x * 9 + n;
        }

        int drips(int x) {
            begins(11);
            return drifts(x) - force * 3;
        }

        int parts(int x) {
            begins(12);
            if (force == n) {
                throw new Refused(-15);
            }
            return x / (force - n);
        }

        int halts(int x) {
            begins(13);
            return drips(x) ^ 130;
        }
    }

    private static class Rain extends Thing {
        int kind() {
            return 1;
        }

        int dx(City c) {
            return force < c.laws[2] ? 0 : super.dx(c);
        }

        int dy(City c) {
            return force < c.laws[2] ? 0 : super.dy(c);
        }

        int wets() {
            return 1 + force;
        }

        int drips(int x) {
            begins(20);
            return super.drips(x) + 2;
        }
    }

    private static final class Drizzle extends Rain {
        int kind() {
            return 3;
        }

        int dx(City c) {
            return Integer.signum(errand % 4 - at % 4);
        }

        int dy(City c) {
            return dx(c) != 0 ? 0 : Integer.signum(errand / 4 - at / 4);
        }

        int wets() {
            return super.wets() * (at == errand ? 2 : 1);
        }

        int parts(int x) {
            begins(50);
            return super.parts(x - force) * 2;
        }

        int drifts(int x) {
            begins(51);
            return super.drifts(x) + n;
        }
    }

    private static class Fog extends Thing {
        int kind() {
            return 2;
        }

        int dx(City c) {
            return (c.step & 1) == 1 ? 0 : super.dx(c);
        }

        int dy(City c) {
            return (c.step & 1) == 1 ? 0 : super.dy(c);
        }

        int wets() {
            return 1;
        }

        int drifts(int x) {
            begins(30);
            return 0 - super.drifts(x);
        }

        int halts(int x) {
            begins(31);
            return super.halts(x) - parts(n);
        }
    }

    private static final class Mist extends Fog {
        int kind() {
            return 4;
        }

        int dx(City c) {
            return (c.step & 3) == 0 ? super.dx(c) : Integer.signum(errand % 4 - at % 4);
        }

        int dy(City c) {
            if ((c.step & 3) == 0) {
                return super.dy(c);
            }
            return errand % 4 != at % 4 ? 0 : Integer.signum(errand / 4 - at / 4);
        }

        int wets() {
            return super.wets() + force / 3;
        }

        int drifts(int x) {
            begins(40);
            return super.drifts(x) + 6;
        }

        int drips(int x) {
            begins(41);
            return super.drips(x) ^ drifts(force);
        }
    }

    private static final class Heat extends Thing {
        int kind() {
            return 5;
        }

        int dx(City c) {
            return 0;
        }

        int dy(City c) {
            return 0;
        }

        int wets() {
            return 0 - force;
        }

        int halts(int x) {
            begins(60);
            return super.halts(x) * 3;
        }

        int parts(int x) {
            begins(61);
            return super.parts(x) + drifts(n);
        }
    }

    private static Thing thing(int n, int kind, int force, int errand, int at) {
        Thing t = List.of(new Thing(), new Rain(), new Fog(), new Drizzle(), new Mist(), new Heat()).get(kind);
        t.n = n;
        t.force = force;
        t.errand = errand;
        t.at = at;
        return t;
    }

    private static final class City {
        int[] laws = {3, 6, 2, 20};
        int step = 0, wind = 0, z = 1;
        int[] wet = new int[16];
        List<Thing> things = new ArrayList<>();

        City copy() {
            City c = new City();
            c.laws = laws.clone();
            c.step = step;
            c.wind = wind;
            c.z = z;
            c.wet = wet.clone();
            for (Thing t : things) {
                c.things.add(thing(t.n, t.kind(), t.force, t.errand, t.at));
            }
            return c;
        }

        City after(int n) {
            City c = copy();
            for (int i = 0; i < n; i++) {
                c.stepOnce();
            }
            return c;
        }

        void stepOnce() {
            if (step != 0 && step % laws[0] == 0) {
                wind = wind == 3 ? 0 : wind + 1;
            }
            int[] goals = new int[things.size()];
            for (Thing t : things) {
                goals[t.n] = t.goal(this);
            }
            for (Thing t : things) {
                t.at = goals[t.n];
                int wetter = wet[t.at] + t.wets();
                wet[t.at] = wetter < 0 ? 0 : wetter > 99 ? 99 : wetter;
            }
            step++;
        }

        int draw() {
            z = z * 1103515245 + 12345;
            return z >>> 16;
        }

        void stepByDraws() {
            if (draw() % 100 < laws[3]) {
                wind = draw() % 4;
            }
            stepOnce();
        }

        int atErrands() {
            int set = 0;
            for (Thing t : things) {
                set += t.at == t.errand ? 1 << t.n : 0;
            }
            return set;
        }

        int[] places() {
            return things.stream().mapToInt(t -> t.at).toArray();
        }
    }

    private static final class Items {
        final int sort;
        final long[] items;

        Items(int sort, int n) {
            this.sort = sort;
            items = new long[n];
        }
    }

    private City city = new City();
    private City keptCity = null;
    private final StringBuilder tape = new StringBuilder();
    private List<int[]> rows = new ArrayList<>();
    private final Items[] sheets = new Items[4];
    private final Object[] shelves = new Object[4];
    private List<Integer> traced = new ArrayList<>();

    private static void ask(boolean can, int otherwise) {
        if (!can) {
            throw new Refused(otherwise);
        }
    }

    private static void within(int v, int least, int most) {
        ask(least <= v && v <= most, BAD);
    }

    private Thing one(int air) {
        ask(air >= 0 && air < city.things.size(), BAD);
        return city.things.get(air);
    }

    public int feed(long eight, int n) {
        within(n, 1, 8);
        ask(tape.length() + n <= 200, FULL);
        for (int i = 0; i < n; i++) {
            tape.append((char) (eight >> 8 * i & 255));
        }
        return tape.length();
    }

    public int city() {
        String text = tape.toString();
        tape.setLength(0);
        City told = new City();
        told.z = city.z;
        int fault = new Reading(text, told).fault();
        ask(fault < 0, -100 - fault);
        city = told;
        rows = new ArrayList<>();
        return city.things.size();
    }

    /** Cuts a text into its words first, then follows them. */
    private static final class Reading {
        private static final Pattern WORD = Pattern.compile("[a-z]+|[0-9]+|[^ ]", Pattern.DOTALL);
        private static final List<String> KINDS = List.of("air", "rain", "fog", "drizzle", "mist", "heat");
        private static final List<String> LAWS = List.of("turn", "damp", "shy", "gust");
        private static final int[][] RANGES = {{1, 9}, {0, 99}, {0, 9}, {0, 99}};

        private final List<String> words = new ArrayList<>();
        private final List<Integer> places = new ArrayList<>();
        private final City told;
        private int next = 0;

        Reading(String text, City told) {
            this.told = told;
            Matcher m = WORD.matcher(text);
            while (m.find()) {
                words.add(m.group());
                places.add(m.start());
            }
            words.add("");
            places.add(text.length());
        }

        int fault() {
            try {
                while (next < words.size() - 1) {
                    sentence();
                }
                return -1;
            } catch (Refused r) {
                return r.answer;
            }
        }

        private void refuse() {
            throw new Refused(places.get(next));
        }

        private void sentence() {
            String first = words.get(next);
            if (KINDS.contains(first)) {
                if (told.things.size() == 8) {
                    refuse();
                }
                next++;
                word("at");
                int at = number(0, 15);
                int force = maybe("force") ? number(0, 9) : 3;
                int errand = maybe("errand") ? number(0, 15) : 0;
                told.things.add(thing(told.things.size(), KINDS.indexOf(first), force, errand, at));
            } else if (maybe("wet")) {
                int house = number(0, 15);
                word("is");
                told.wet[house] = number(0, 99);
            } else if (maybe("wind")) {
                told.wind = number(0, 3);
            } else if (LAWS.contains(first)) {
                next++;
                int law = LAWS.indexOf(first);
                told.laws[law] = number(RANGES[law][0], RANGES[law][1]);
            } else {
                refuse();
            }
            word(";");
        }

        private boolean maybe(String word) {
            if (words.get(next).equals(word)) {
                next++;
                return true;
            }
            return false;
        }

        private void word(String word) {
            if (!maybe(word)) {
                refuse();
            }
        }

        private int number(int least, int most) {
            String digits = words.get(next);
            if (!digits.matches("[0-9]{1,3}") || Integer.parseInt(digits) < least || Integer.parseInt(digits) > most) {
                refuse();
            }
            next++;
            return Integer.parseInt(digits);
        }
    }

    public int set(int law, int v) {
        within(law, 0, 3);
        within(v, law == 0 ? 1 : 0, law % 2 == 0 ? 9 : 99);
        int was = city.laws[law];
        city.laws[law] = v;
        return was;
    }

    public int lawOf(int law) {
        within(law, 0, 3);
        return city.laws[law];
    }

    public int air(int kind, int force, int errand, int house) {
        within(kind, 0, 5);
        within(force, 0, 9);
        within(errand, 0, 15);
        within(house, 0, 15);
        int n = city.things.size();
        ask(n < 8, FULL);
        city.things.add(thing(n, kind, force, errand, house));
        return n;
    }

    public int of(int air, int what) {
        Thing t = one(air);
        within(what, 0, 5);
        int way = List.of(1, 4, -1, -4).indexOf(t.goal(city) - t.at);
        return new int[] {t.kind(), t.force, t.errand, t.at, way < 0 ? 4 : way, 1000 + t.wets()}[what];
    }

    public int mind(int air, int kind, int force) {
        Thing t = one(air);
        within(kind, 0, 5);
        within(force, 0, 9);
        city.things.set(air, thing(air, kind, force, t.errand, t.at));
        return t.kind();
    }

    public int bring(int air, int house) {
        Thing t = one(air);
        within(house, 0, 15);
        int was = t.at;
        t.at = house;
        return was;
    }

    public int send(int air, int house) {
        Thing t = one(air);
        within(house, 0, 15);
        int was = t.errand;
        t.errand = house;
        return was;
    }

    public int blow(int way) {
        within(way, 0, 3);
        int was = city.wind;
        city.wind = way;
        return was;
    }

    public int pour(int house, int v) {
        within(house, 0, 15);
        within(v, 0, 99);
        int was = city.wet[house];
        city.wet[house] = v;
        return was;
    }

    public int house(int house, int what) {
        within(house, 0, 15);
        within(what, 0, 1);
        int set = 0;
        for (Thing t : city.things) {
            set += t.at == house ? 1 << t.n : 0;
        }
        return what == 0 ? city.wet[house] : set;
    }

    public int steps(int n) {
        within(n, 1, 60);
        city = city.after(n);
        return Integer.bitCount(city.atErrands());
    }

    public int seed(int v) {
        int was = city.z;
        city.z = v;
        return was;
    }

    public int step() {
        city.stepByDraws();
        return Integer.bitCount(city.atErrands());
    }

    public int blown(int n) {
        within(n, 1, 30);
        int[] calm = city.after(1).places();
        int z = city.z;
        int count = 0;
        for (int i = 0; i < n; i++) {
            City c = city.copy();
            c.z = z;
            c.stepByDraws();
            z = c.z;
            count += java.util.Arrays.equals(calm, c.places()) ? 0 : 1;
        }
        return count;
    }

    public int state(int what) {
        within(what, 0, 5);
        int sum = 0, taken = 0, damp = 0;
        for (int h = 0; h < 16; h++) {
            sum += city.wet[h];
            damp += city.wet[h] >= city.laws[1] ? 1 << h : 0;
            taken += house(h, 1) != 0 ? 1 << h : 0;
        }
        return new int[] {city.step, city.wind, sum, taken, city.atErrands(), damp}[what];
    }

    public int where(int air, int n) {
        one(air);
        within(n, 0, 60);
        return city.after(n).places()[air];
    }

    public int stops(int air) {
        one(air);
        for (int n = 0; n <= 60; n++) {
            if ((city.after(n).atErrands() >> air & 1) == 1) {
                return n;
            }
        }
        return NONE;
    }

    public int meets(int air, int other) {
        one(air);
        one(other);
        ask(air != other, BAD);
        for (int n = 0; n <= 60; n++) {
            int[] places = city.after(n).places();
            if (places[air] == places[other]) {
                return n;
            }
        }
        return NONE;
    }

    public int told(int air) {
        Thing t = one(air);
        City mere = city.copy();
        mere.things.set(air, thing(air, 0, t.force, t.errand, t.at));
        for (int n = 0; n <= 60; n++) {
            if (city.after(n).places()[air] != mere.after(n).places()[air]) {
                return n;
            }
        }
        return NONE;
    }

    private static int offIn(City c, int air, int n) {
        Thing t = c.after(n).things.get(air);
        return Math.abs(t.at % 4 - t.errand % 4) + Math.abs(t.at / 4 - t.errand / 4);
    }

    public int off(int air, int n) {
        one(air);
        within(n, 0, 60);
        return offIn(city, air, n);
    }

    public int windFor(int air, int n) {
        one(air);
        within(n, 1, 30);
        int best = 3;
        int least = 99;
        for (int way = 3; way >= 0; way--) {
            City c = city.copy();
            c.wind = way;
            if (offIn(c, air, n) <= least) {
                best = way;
                least = offIn(c, air, n);
            }
        }
        return best;
    }

    public int kindFor(int air, int n) {
        Thing t = one(air);
        within(n, 1, 30);
        int best = 5;
        int least = 99;
        for (int kind = 5; kind >= 0; kind--) {
            City c = city.copy();
            c.things.set(air, thing(air, kind, t.force, t.errand, t.at));
            if (offIn(c, air, n) <= least) {
                best = kind;
                least = offIn(c, air, n);
            }
        }
        return best;
    }

    public int seen(int n) {
        within(n, 0, 30);
        int[] visited = new int[city.things.size()];
        City c = city.copy();
        for (int i = 0; i <= n; i++) {
            for (Thing t : c.things) {
                visited[t.n] |= 1 << t.at;
            }
            c.stepOnce();
        }
        int fewest = 16;
        for (int windows = 0; windows < 65536; windows++) {
            boolean all = true;
            for (int houses : visited) {
                all = all && (houses & windows) != 0;
            }
            fewest = all ? Math.min(fewest, Integer.bitCount(windows)) : fewest;
        }
        return fewest;
    }

    public int dryWay(int from, int to) {
        within(from, 0, 15);
        within(to, 0, 15);
        int[] far = new int[16];
        java.util.Arrays.fill(far, -1);
        ArrayDeque<Integer> queue = new ArrayDeque<>();
        if (city.wet[from] < city.laws[1]) {
            far[from] = 0;
            queue.add(from);
        }
        while (!queue.isEmpty()) {
            int h = queue.poll();
            for (int next = 0; next < 16; next++) {
                int apart = Math.abs(h % 4 - next % 4) + Math.abs(h / 4 - next / 4);
                if (apart == 1 && far[next] < 0 && city.wet[next] < city.laws[1]) {
                    far[next] = far[h] + 1;
                    queue.add(next);
                }
            }
        }
        return far[to] < 0 ? NONE : far[to];
    }

    public int fits(int sheet, int air, int what) {
        within(sheet, 0, 3);
        one(air);
        within(what, 0, 1);
        ask(sheets[sheet] != null, -11);
        List<Integer> fitting = new ArrayList<>();
        for (int h = 0; h < 16; h++) {
            City c = city.copy();
            c.things.get(air).at = h;
            boolean fits = true;
            for (long told : sheets[sheet].items) {
                c.stepOnce();
                fits = fits && (told == -1 || told == c.things.get(air).at);
            }
            if (fits) {
                fitting.add(h);
            }
        }
        if (what == 0) {
            return fitting.size();
        }
        return fitting.isEmpty() ? NONE : fitting.get(0);
    }

    private static long part(BigInteger above, BigInteger below, int part) {
        BigInteger gcd = above.gcd(below);
        return (part == 0 ? above : below).divide(gcd).longValueExact();
    }

    public long odds(int n, int k, int part) {
        within(n, 0, 8);
        within(k, 0, n);
        within(part, 0, 1);
        BigInteger gust = BigInteger.valueOf(city.laws[3]);
        BigInteger calm = BigInteger.valueOf(100 - city.laws[3]);
        BigInteger above = BigInteger.ZERO;
        for (int days = 0; days < 1 << n; days++) {
            if (Integer.bitCount(days) == k) {
                above = above.add(gust.pow(k).multiply(calm.pow(n - k)));
            }
        }
        return part(above, BigInteger.valueOf(100).pow(n), part);
    }

    public long hope(int n, int part) {
        within(n, 0, 99);
        within(part, 0, 1);
        return part(BigInteger.valueOf((long) n * city.laws[3]), BigInteger.valueOf(100), part);
    }

    private int[] rowOf(int air, int n) {
        City c = city.after(n);
        int at = c.places()[air];
        return new int[] {at, c.wet[at], offIn(city, air, n)};
    }

    public int prove(int air, int n) {
        one(air);
        within(n, 1, 10);
        rows = new ArrayList<>();
        for (int i = 1; i <= n; i++) {
            rows.add(rowOf(air, i));
        }
        return n;
    }

    public int row(int i, int what) {
        ask(i >= 0 && i < rows.size() && what >= 0 && what < 3, -9);
        return rows.get(i)[what];
    }

    public int alterRow(int i, int what, int v) {
        int was = row(i, what);
        rows.get(i)[what] = v;
        return was;
    }

    public int judge(int air) {
        one(air);
        for (int i = 0; i < rows.size(); i++) {
            if (!java.util.Arrays.equals(rows.get(i), rowOf(air, i + 1))) {
                return i + 1;
            }
        }
        return 0;
    }

    public int minds(int sheet, int i, int air, int n) {
        within(sheet, 0, 3);
        one(air);
        within(n, 0, 8);
        ask(air + n <= city.things.size(), BAD);
        ask(sheets[sheet] != null, -11);
        ask(sheets[sheet].sort == 0, -13);
        long[] items = sheets[sheet].items;
        ask(i >= 0 && i <= items.length && (long) i + n <= items.length, -12);
        for (int j = 0; j < n; j++) {
            city.things.get(air + j).force = (int) Math.max(0, Math.min(9, items[i + j]));
        }
        return n;
    }

    public int sheet(int sheet, int sort, int n) {
        within(sheet, 0, 3);
        within(sort, -1, 3);
        if (sort == -1) {
            sheets[sheet] = null;
            return 1;
        }
        ask(n <= 40, BAD);
        ask(n >= 0, -14);
        sheets[sheet] = new Items(sort, n);
        return 1;
    }

    public int put(int sheet, int i, int v) {
        within(sheet, 0, 3);
        ask(sheets[sheet] != null, -11);
        ask(i >= 0 && i < sheets[sheet].items.length, -12);
        int sort = sheets[sheet].sort;
        sheets[sheet].items[i] = sort == 0 ? (byte) v : sort == 1 ? (short) v : v;
        return 1;
    }

    public int item(int sheet, int sort, int i) {
        within(sheet, 0, 3);
        within(sort, 0, 3);
        ask(sheets[sheet] != null, -11);
        ask(sheets[sheet].sort == sort, -13);
        ask(i >= 0 && i < sheets[sheet].items.length, -12);
        return (int) sheets[sheet].items[i];
    }

    public int shelf(int shelf, int what, int n) {
        within(shelf, 0, 3);
        within(what, 0, 2);
        if (what == 0) {
            shelves[shelf] = one(n).n;
        } else if (what == 1) {
            within(n, 0, 3);
            shelves[shelf] = sheets[n];
        } else {
            shelves[shelf] = null;
        }
        return 1;
    }

    private Object on(int shelf) {
        Object held = shelves[shelf];
        return held instanceof Integer && (Integer) held >= city.things.size() ? null : held;
    }

    public int taken(int shelf, int as) {
        within(shelf, 0, 3);
        ask(as >= 0 && as <= 5 || as >= 10 && as <= 13, BAD);
        Object held = on(shelf);
        ask(held != null, -11);
        if (held instanceof Items) {
            ask(as == ((Items) held).sort + 10, -13);
            return ((Items) held).items.length;
        }
        Class<?>[] classes = {Thing.class, Rain.class, Fog.class, Drizzle.class, Mist.class, Heat.class};
        ask(as <= 5 && classes[as].isInstance(city.things.get((Integer) held)), -13);
        return (Integer) held;
    }

    public int act(int shelf, int act, int x) {
        Thing.TRACE.clear();
        try {
            Object held = shelf >= 0 && shelf <= 3 ? on(shelf) : null;
            if (!(held instanceof Integer) || act < 0 || act > 3) {
                return 0;
            }
            Thing t = city.things.get((Integer) held);
            return act == 0 ? t.drifts(x) : act == 1 ? t.drips(x) : act == 2 ? t.parts(x) : t.halts(x);
        } finally {
            traced = new ArrayList<>(Thing.TRACE);
        }
    }

    public int trace(int i) {
        ask(i >= 0 && i < traced.size() && i < 30, NONE);
        return traced.get(i);
    }

    public int many(int what) {
        within(what, 0, 6);
        int wet = 0;
        for (int w : city.wet) {
            wet += w > 0 ? 1 : 0;
        }
        return new int[] {city.things.size(), Integer.bitCount(city.atErrands()), Integer.bitCount(state(3)), wet,
            rows.size(), tape.length(), Math.min(30, traced.size())}[what];
    }

    public int keep() {
        keptCity = city.copy();
        return 1;
    }

    public int again() {
        ask(keptCity != null, NONE);
        city = keptCity.copy();
        return city.things.size();
    }

    /** Calls a method by its name: what it answers, a refusal too. */
    static long answer(Object on, java.lang.reflect.Method method, Object[] arguments) throws Exception {
        try {
            return ((Number) method.invoke(on, arguments)).longValue();
        } catch (java.lang.reflect.InvocationTargetException e) {
            if (e.getCause() instanceof Refused) {
                return ((Refused) e.getCause()).answer;
            }
            throw e;
        }
    }
}
