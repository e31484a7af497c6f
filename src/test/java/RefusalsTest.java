import java.lang.reflect.Method;
import java.lang.reflect.Modifier;
import java.util.Arrays;
import java.util.Comparator;

/** No call ever throws, for any arguments in any state, and what is refused changes nothing. */
public final class RefusalsTest {
    private static final Check CHECK = new Check("RefusalsTest");
    private static final int[] ODD = {Integer.MIN_VALUE, Integer.MIN_VALUE + 1, -65536, -129, -15, -2, -1, 0, 1, 2, 3, 4,
        5, 6, 7, 8, 9, 10, 13, 14, 15, 16, 30, 31, 40, 41, 60, 61, 99, 100, 255, 256, 65536, Integer.MAX_VALUE};

    private static Method[] methods;
    private static long random = 45;

    public static void main(String[] args) throws Exception {
        methods = Arrays.stream(WeatherDisguise.class.getDeclaredMethods())
            .filter(m -> Modifier.isPublic(m.getModifiers()))
            .sorted(Comparator.comparing(Method::getName)).toArray(Method[]::new);
        for (int filling = 0; filling < 4; filling++) {
            for (Method method : methods) {
                neverThrows(method, filling);
                refusedChangesNothing(method, filling);
            }
        }
        CHECK.end();
    }

    /** 0: new; 1: two AIRS; 2: eight; 3: eight whose FORCES are their numbers. */
    private static WeatherDisguise filled(int filling) {
        WeatherDisguise x = new WeatherDisguise();
        if (filling == 0) {
            return x;
        }
        int airs = filling == 1 ? 2 : 8;
        x.sheet(0, 0, 4);
        x.sheet(1, 1, 0);
        x.sheet(2, 3, 40);
        x.put(0, 1, -9);
        for (int i = 0; i < airs; i++) {
            x.air(i % 6, filling == 3 ? i : 9 - i, 15 - i, 2 * i);
        }
        x.shelf(0, 0, airs - 1);
        x.shelf(1, 1, 0);
        x.shelf(2, 0, 1);
        x.keep();
        x.prove(1, 10);
        x.pour(3, 98);
        x.steps(filling);
        Texts.feed(x, "wind 2; wet 1 is");
        x.act(2, 3, 5);
        return x;
    }

    private static Object[] arguments(Method method) {
        Class<?>[] types = method.getParameterTypes();
        Object[] arguments = new Object[types.length];
        for (int i = 0; i < types.length; i++) {
            random = random * 6364136223846793005L + 1442695040888963407L;
            int which = (int) ((random >>> 33) % ODD.length);
            arguments[i] = types[i] == long.class ? (Object) random : (Object) ODD[which];
        }
        return arguments;
    }

    private static void neverThrows(Method method, int filling) {
        WeatherDisguise x = filled(filling);
        Object[] arguments = {};
        try {
            for (int i = 0; i < 400; i++) {
                arguments = arguments(method);
                method.invoke(x, arguments);
            }
            CHECK.holds(method.getName() + " never throws", true);
        } catch (ReflectiveOperationException e) {
            CHECK.holds(method.getName() + Arrays.toString(arguments) + " does not throw " + e.getCause(), false);
        }
    }

    private static boolean isRefusal(String name, long answer) {
        switch (name) {
            case "act": case "seed": case "item": case "row": case "trace":
                return false;
            case "alterRow":
                return answer == -9;
            default:
                return answer < 0;
        }
    }

    private static void refusedChangesNothing(Method method, int filling) throws ReflectiveOperationException {
        if (method.getName().equals("city")) {
            return;
        }
        WeatherDisguise x = filled(filling);
        int refused = 0;
        for (int i = 0; i < 60; i++) {
            Object[] arguments = arguments(method);
            long answer = ((Number) method.invoke(filled(filling), arguments)).longValue();
            if (isRefusal(method.getName(), answer)) {
                method.invoke(x, arguments);
                refused++;
            }
        }
        if (refused > 0) {
            same(method.getName(), x, filled(filling));
        }
    }

    private static void same(String name, WeatherDisguise x, WeatherDisguise y) {
        String told = name + ", refused, changes nothing: ";
        for (int i = 0; i < 16; i++) {
            CHECK.due(told + "house(" + i + ", 0)", x.house(i, 0), y.house(i, 0));
            CHECK.due(told + "row(" + i + ", 1)", x.row(i, i % 3), y.row(i, i % 3));
            CHECK.due(told + "trace(" + i + ")", x.trace(i), y.trace(i));
        }
        for (int i = 0; i < 8; i++) {
            for (int what = 0; what < 6; what++) {
                CHECK.due(told + "of(" + i + ", " + what + ")", x.of(i, what), y.of(i, what));
            }
            CHECK.due(told + "state(" + i + ")", x.state(i), y.state(i));
            CHECK.due(told + "many(" + i + ")", x.many(i), y.many(i));
            CHECK.due(told + "lawOf(" + i + ")", x.lawOf(i), y.lawOf(i));
        }
        for (int i = 0; i < 4; i++) {
            for (int as = 0; as < 14; as++) {
                CHECK.due(told + "taken(" + i + ", " + as + ")", x.taken(i, as), y.taken(i, as));
            }
            for (int sort = 0; sort < 4; sort++) {
                CHECK.due(told + "item(" + i + ", " + sort + ", 0)", x.item(i, sort, 0), y.item(i, sort, 0));
                CHECK.due(told + "item(" + i + ", " + sort + ", 3)", x.item(i, sort, 3), y.item(i, sort, 3));
                CHECK.due(told + "item(" + i + ", " + sort + ", 39)", x.item(i, sort, 39), y.item(i, sort, 39));
            }
        }
        CHECK.due(told + "z", x.seed(5), y.seed(5));
        CHECK.due(told + "city()", x.city(), y.city());
        CHECK.due(told + "again()", x.again(), y.again());
        CHECK.due(told + "state(0) again", x.state(0), y.state(0));
    }
}
