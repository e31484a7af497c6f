import java.lang.reflect.Method;
import java.lang.reflect.Modifier;
import java.util.ArrayList;
import java.util.Arrays;
import java.util.Comparator;
import java.util.List;

/** Promises 1 to 45: long runs of calls on the program and on the model, whose answers must be the same. */
public final class ModelTest {
    private static final int RUNS = 1500, CALLS = 512;
    private static final int[] ODD_INTS = {-1, -2, -14, 16, 41, 61, 100, 255, 256, 32767, 32768, -32768,
        Integer.MAX_VALUE, Integer.MIN_VALUE, Integer.MIN_VALUE + 1};
    private static final String[] WORDS = {"air", "rain", "fog", "drizzle", "mist", "heat", "at", "force", "errand",
        "wet", "is", "wind", "turn", "damp", "shy", "gust", ";", ";", "0", "1", "9", "10", "15", "16", "99", "100",
        "007", "0001", "airs", "A", "\t", "\u00e9"};

    private final Check check = new Check("ModelTest");
    private final List<Method> calls = new ArrayList<>();
    private final List<Method> modelCalls = new ArrayList<>();
    private long random = 20261118L;
    private WeatherDisguise program;
    private Model model;
    private final List<String> latest = new ArrayList<>();

    public static void main(String[] args) throws Exception {
        new ModelTest().run();
    }

    private void run() throws Exception {
        for (Method m : WeatherDisguise.class.getDeclaredMethods()) {
            if (Modifier.isPublic(m.getModifiers())) {
                calls.add(m);
            }
        }
        calls.sort(Comparator.comparing(Method::getName));
        for (Method m : calls) {
            modelCalls.add(Model.class.getMethod(m.getName(), m.getParameterTypes()));
        }
        check.due("how many methods there are", calls.size(), 44);
        for (int i = 0; i < RUNS && !check.isWrong(); i++) {
            runOnce(i);
        }
        check.end();
    }

    private void runOnce(int number) throws Exception {
        program = new WeatherDisguise();
        model = new Model();
        latest.clear();
        int done = number % 3 == 0 ? 0 : fill();
        while (done < CALLS && !check.isWrong()) {
            int kind = below(12);
            if (kind == 0) {
                done += feedText(below(2) == 0 ? goodText() : spoilt(goodText()));
            } else if (kind == 1) {
                done += lookAtAll();
            } else {
                int which = below(calls.size());
                call(which, arguments(calls.get(which)));
                done++;
            }
        }
        if (check.isWrong()) {
            System.out.println("run " + number + ": " + latest.subList(Math.max(0, latest.size() - 60), latest.size()));
        }
    }

    /** Sets up a lively city. */
    private int fill() throws Exception {
        int airs = below(9);
        for (int i = 0; i < airs; i++) {
            call("air", below(6), below(10), below(16), below(16));
        }
        call("seed", (int) next());
        call("set", 1, 1 + below(20));
        call("set", 3, below(100));
        for (int i = 0; i < 5; i++) {
            call("pour", below(16), below(3) == 0 ? below(100) : below(12));
        }
        return airs + 8;
    }

    private int lookAtAll() throws Exception {
        int done = 0;
        for (int what = 0; what < 6; what++) {
            call("state", what);
            call("many", what + below(2));
            call("lawOf", what);
            done += 3;
        }
        for (int house = 0; house < 16; house++) {
            call("house", house, below(2));
            done++;
        }
        for (int air = 0; air < 8; air++) {
            call("of", air, below(6));
            call("row", air, below(3));
            call("trace", air);
            done += 3;
        }
        return done;
    }

    private void call(String name, Object... arguments) throws Exception {
        for (int i = 0; i < calls.size(); i++) {
            if (calls.get(i).getName().equals(name)) {
                call(i, arguments);
                return;
            }
        }
        check.holds("there is a method " + name, false);
    }

    private void call(int which, Object[] arguments) throws Exception {
        String told = calls.get(which).getName() + Arrays.toString(arguments);
        latest.add(told);
        long got = Model.answer(program, calls.get(which), arguments);
        long want = Model.answer(model, modelCalls.get(which), arguments);
        check.due(told, got, want);
    }

    private Object[] arguments(Method m) {
        Class<?>[] types = m.getParameterTypes();
        Object[] arguments = new Object[types.length];
        for (int i = 0; i < types.length; i++) {
            if (types[i] == long.class) {
                arguments[i] = next() * 3;
            } else {
                arguments[i] = number(m.getName(), i);
            }
        }
        return arguments;
    }

    private int number(String name, int i) {
        int sort = below(60);
        if (sort < 2) {
            return ODD_INTS[below(ODD_INTS.length)];
        }
        if (sort < 5) {
            return below(70) - 5;
        }
        if (name.equals("act") && i == 2 || name.equals("seed")) {
            return (int) next();
        }
        if (name.equals("put") && i == 2) {
            return below(3) == 0 ? (int) next() : below(2) == 0 ? -1 : below(16);
        }
        if (name.equals("alterRow") && i == 2) {
            return below(16);
        }
        return below(most(name, i));
    }

    /** How many values an argument may most often have. */
    private static int most(String name, int i) {
        switch (name + i) {
            case "feed1": return 9;
            case "set1": case "pour1": case "hope0": return 100;
            case "air1": case "mind2": case "odds0": case "odds1": return 9;
            case "air2": case "air3": case "bring1": case "send1": case "pour0": case "house0": return 16;
            case "steps0": case "where1": case "off1": return 61;
            case "blown0": case "windFor1": case "kindFor1": case "seen0": return 31;
            case "dryWay0": case "dryWay1": return 16;
            case "air0": case "of1": case "mind1": case "state0": return 6;
            case "prove1": case "row0": case "alterRow0": case "minds1": case "put1": case "item2": return 11;
            case "minds3": return 4;
            case "sheet2": return 12;
            case "taken1": return 14;
            case "many0": return 8;
            case "trace0": return 13;
            case "of0": case "mind0": case "bring0": case "send0": case "where0": case "stops0": case "meets0":
            case "meets1": case "told0": case "off0": case "windFor0": case "kindFor0": case "fits1": case "prove0":
            case "judge0": case "minds2": return 8;
            case "odds2": case "hope1": case "fits2": case "house1": return 2;
            case "row1": case "alterRow1": case "shelf1": return 3;
            default: return 4;
        }
    }

    private int feedText(String text) throws Exception {
        int done = 1;
        for (int from = 0; from < text.length(); from += 8) {
            int n = Math.min(8, text.length() - from);
            call("feed", Texts.eightFrom(text, from, n), n);
            done++;
        }
        call("city");
        return done;
    }

    private String goodText() {
        StringBuilder text = new StringBuilder();
        int sentences = below(14);
        for (int i = 0; i < sentences && text.length() < 170; i++) {
            text.append(blanks(0));
            int sort = below(10);
            if (sort < 4) {
                text.append(WORDS[below(6)]).append(blanks(1)).append("at").append(blanks(below(2))).append(below(16));
                text.append(below(2) == 0 ? "" : " force" + blanks(0) + below(10));
                text.append(below(2) == 0 ? "" : " errand " + below(16));
            } else if (sort == 4) {
                text.append("wet ").append(below(16)).append(" is ").append(below(100));
            } else {
                String[] names = {"wind", "turn", "damp", "shy", "gust"};
                text.append(names[sort - 5]).append(blanks(1)).append(below(11));
            }
            text.append(blanks(0)).append(';');
        }
        return text.toString();
    }

    private String blanks(int least) {
        return "   ".substring(0, Math.min(3, least + (below(4) == 0 ? below(3) : 0)));
    }

    /** A text with a byte or a word more, less, or another one, or cut short. */
    private String spoilt(String good) {
        if (good.isEmpty()) {
            return WORDS[below(WORDS.length)];
        }
        int at = below(good.length());
        int sort = below(4);
        String word = below(3) == 0 ? String.valueOf((char) below(256)) : WORDS[below(WORDS.length)];
        String behind = sort == 0 ? "" : good.substring(sort == 1 ? at : at + 1);
        return good.substring(0, at) + (sort == 0 || sort == 3 ? "" : word) + behind;
    }

    private long next() {
        random = random * 6364136223846793005L + 1442695040888963407L;
        return random >> 20;
    }

    private int below(int most) {
        return (int) ((next() >>> 13 & 0x7fffffff) % most);
    }
}
