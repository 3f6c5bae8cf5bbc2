import java.lang.reflect.InvocationTargetException;
import java.lang.reflect.Method;
import java.util.ArrayList;
import java.util.HashMap;
import java.util.List;
import java.util.Map;
import java.util.Random;

/**
 * Runs of random calls, the same ones on LoadBourse and on Model: each answer must be the same.
 * Arguments: the first seed and how many runs (by default those that CI runs).
 */
public final class RandomRunsTest {
    private static final int CALLS = 512;
    private static final int[] EDGES = {Integer.MIN_VALUE, -100000, -101, -100, -99, -9, -2, -1, 0, 1, 2, 3, 4, 5, 6, 7,
        8, 9, 10, 11, 14, 15, 16, 20, 21, 32, 39, 40, 41, 77, 78, 80, 99, 100, 101, 365, 366, 400, 401, 2000, 2001,
        4000, 4001, 9999, 10000, 40007, 40008, 40010, 100000, Integer.MAX_VALUE};
    private static final Map<String, Method> REAL = methodsOf(LoadBourse.class);
    private static final Map<String, Method> MODEL = methodsOf(Model.class);
    private static final String[] NAMES = REAL.keySet().stream().sorted().toArray(String[]::new);

    /** What a run asks most of, so that it comes to what many acts of one sort come to. */
    private static final String[][] THEMES = {
        {"road", "lorry", "load", "window", "window", "pay", "give", "best", "gets", "empty", "worth", "proof"},
        {"why", "drive", "drive", "drive", "why", "window", "road", "why", "drive", "lorry", "load", "undo"},
        {"paid", "paid", "paid", "paid", "span", "span", "span", "all", "undo"},
        {"contract", "contract", "contract", "chain", "chain", "doubles", "trusts", "trust", "terms", "all"},
        {"report", "report", "report", "cannot", "cannot", "road", "far", "all", "undo"},
        {"owe", "owe", "owe", "owe", "owe", "net", "clearing", "clearing", "clearing", "all"},
        {"sheet", "put", "put", "put", "copy", "copy", "text", "wrong", "terms", "proof"},
        {"judge", "judge", "trust", "terms"},
        {"lend", "lend", "net", "clearing"}};

    private final Random random;
    private final LoadBourse real = new LoadBourse();
    private final Model model = new Model();
    private final List<String> log = new ArrayList<>();
    private final int towns;
    private final int longest;
    private final int wild;
    private final int lastMinute;
    private String fault;

    private RandomRunsTest(long seed) {
        random = new Random(seed);
        towns = 3 + random.nextInt(6);
        longest = new int[] {40, 90, 160, 270, 400}[random.nextInt(5)];
        wild = new int[] {0, 2, 5, 30}[random.nextInt(4)];
        lastMinute = new int[] {400, 900, 1600, 4000}[random.nextInt(4)];
    }

    private static Map<String, Method> methodsOf(Class<?> of) {
        Map<String, Method> methods = new HashMap<>();
        for (Method m : of.getDeclaredMethods()) {
            if (of == Model.class || java.lang.reflect.Modifier.isPublic(m.getModifiers())) {
                m.setAccessible(true);
                methods.merge(m.getName(), m, (a, b) -> a.getParameterCount() > b.getParameterCount() ? b : a);
            }
        }
        return methods;
    }

    private int call(String name, Object... args) {
        if (fault != null || log.size() >= CALLS) {
            return Check.NONE;
        }
        String told = name + java.util.Arrays.toString(args);
        Object got = answer(REAL.get(name), real, args);
        Object want = answer(MODEL.get(name), model, args);
        log.add(told + " = " + got);
        if (!got.equals(want)) {
            fault = told + " answered " + got + ", due is " + want;
        }
        return want instanceof Integer i ? i : Check.NONE;
    }

    private static Object answer(Method method, Object of, Object[] args) {
        try {
            return method.invoke(of, args);
        } catch (InvocationTargetException e) {
            return "thrown " + e.getCause();
        } catch (IllegalAccessException e) {
            return "not to be called: " + e;
        }
    }

    private int below(int n) {
        return random.nextInt(Math.max(n, 1));
    }

    private int any(int usual) {
        if (below(100) >= wild) {
            return usual;
        }
        return below(4) == 0 ? random.nextInt() : EDGES[below(EDGES.length)];
    }

    private int town() {
        return any(below(towns));
    }

    private int lane() {
        return any(10 * below(towns) + below(towns));
    }

    private int usedLane() {
        return below(3) == 0 ? lane() : any(10 * below(2) + 1);
    }

    /** Mostly a row that the lorry fits. */
    private Object[] row(boolean withWhat) {
        int lorry = lorryNumber();
        int one = any(below(9) - 1);
        int two = any(below(9) - 1);
        for (int i = below(40); i > 0 && model.asked(lorry, one, two) != 0; i--) {
            lorry = lorryNumber();
            one = any(below(9) - 1);
            two = any(below(9) - 1);
        }
        return withWhat ? new Object[] {lorry, one, two, small(0, 5)} : new Object[] {lorry, one, two};
    }

    private int lorryNumber() {
        return any(below(6 - below(5)));
    }

    private int loadNumber() {
        return any(below(8 - below(6)));
    }

    private int firm() {
        return any(below(10 - below(8)));
    }

    private int minute() {
        return any(below(lastMinute + 1));
    }

    private boolean coin() {
        return random.nextBoolean();
    }

    private int small(int least, int most) {
        return any(least + below(most - least + 1));
    }

    private void step(String name) {
        switch (name) {
            case "road" -> call(name, town(), town(), any(below(8) == 0 ? 0 : 1 + below(longest)));
            case "far" -> call(name, town(), town());
            case "lorry" -> call(name, small(0, 3), town(), any(below(Math.min(lastMinute, 2000) / (1 + below(9)) + 1)),
                any(10 * (coin() ? 4000 : below(lastMinute + 1)) + below(towns)), small(12, 40), small(12, 40));
            case "as" -> call(name, lorryNumber(), small(0, 3));
            case "lorryIs" -> call(name, lorryNumber(), small(0, 7));
            case "load" -> call(name, lane(), any(below(6) / 2 % 3), small(1, 24), small(1, 24), small(0, 700));
            case "window" -> window();
            case "loadIs" -> call(name, loadNumber(), small(0, 10));
            case "pay" -> call(name, loadNumber(), small(0, 700));
            case "give" -> call(name, loadNumber(), any(below(3) == 0 ? -1 : below(6)));
            case "why", "drive" -> call(name, row(name.equals("drive")));
            case "gets" -> call(name, lorryNumber(), small(0, 1));
            case "paid" -> call(name, usedLane(), small(0, 60), small(0, 9999));
            case "span" -> call(name, usedLane(), small(0, 90), small(0, 3));
            case "contract" -> call(name, any(below(3)), firm(), firm());
            case "chain" -> call(name, any(below(3)), firm(), coin());
            case "report" -> call(name, any(below(3)), town(), minute());
            case "cannot" -> call(name, any(below(3)), coin());
            case "trusts", "trust" -> call(name, firm(), coin());
            case "owe" -> call(name, firm(), firm(), small(-30, 99));
            case "net" -> call(name, firm());
            case "clearing" -> call(name, small(-1, 8));
            case "doubles", "worth" -> call(name, loadNumber());
            case "text", "proves" -> call(name, small(0, 3));
            case "claim" -> call(name, loadNumber(), minute(), firm());
            case "sheet" -> call(name, small(0, 3), any(new int[] {0, 8, 8, 16, 32}[below(5)]), small(0, 20));
            case "put" -> call(name, small(0, 3), small(0, 8), any(below(2) == 0 ? below(60) : 100 * below(9) + below(9)));
            case "copy" -> call(name, small(0, 3), small(0, 6), small(0, 3), small(0, 6), small(0, 6));
            case "empty" -> call(name, coin());
            case "all" -> call(name, small(0, 5));
            case "judge" -> judge();
            case "lend" -> lend();
            case "proof" -> proof();
            case "terms" -> terms();
            default -> call(name);
        }
    }

    /** Many of one firm, so that it comes to what is FULL. */
    private void judge() {
        for (int i = below(160); i >= 0; i--) {
            call("trusts", any(0), below(3) > 0);
        }
    }

    /** Much between the same two firms, and one way, so that it comes to what is FULL. */
    private void lend() {
        int sign = coin() ? 1 : -1;
        for (int i = below(160); i >= 0; i--) {
            call("owe", any(0), any(1), any(sign * (99 - below(9) / 8)));
        }
    }

    private void window() {
        int a = below(lastMinute + 1);
        int b = below(lastMinute + 1);
        boolean wide = below(3) > 0;
        int from = Math.min(a, b);
        call("window", loadNumber(), coin(), any(wide ? from / 3 : from), any(wide ? 4000 - a / 4 : Math.max(a, b)));
    }

    private void setOut() {
        for (int i = 0; i < towns * 2; i++) {
            step("road");
        }
        int n = below(9);
        for (int i = 0; i < n; i++) {
            step(i % 3 == 2 ? "window" : "lorry");
            step("load");
            step("load");
        }
    }

    /** A sheet as gets() tells the giving, now and then with another number on it. */
    private void proof() {
        int n = call("all", 0);
        int s = below(4);
        call("sheet", s, new int[] {8, 16, 32}[below(3)], n);
        int spoilt = below(2) == 0 ? below(n) : -1;
        for (int lorry = 0; lorry < n; lorry++) {
            int one = call("gets", lorry, 0);
            int two = call("gets", lorry, 1);
            int row = 100 * (one < 0 ? 0 : one + 1) + (two < 0 ? 0 : two + 1);
            int[] others = {0, 100 * below(10) + below(10), below(100), row + 65536, -row, row / 100 * 100, below(900)};
            call("put", s, lorry, lorry == spoilt ? others[below(others.length)] : row);
        }
        call("proves", s);
    }

    /** A text that is right more often than not, and claims by it. */
    private void terms() {
        List<Integer> signs = new ArrayList<>();
        int depth = 0;
        int n = below(15);
        for (int i = 0; i < n; i++) {
            boolean joins = depth >= 5 || depth >= 2 && (below(2) == 0 || n - i < depth);
            joins ^= below(60) == 0;
            signs.add(joins ? 50 + below(7) : below(3) == 0 ? 10 + below(40) : 1 + below(6));
            depth += joins ? -1 : 1;
        }
        int s = below(4);
        call("sheet", s, 8, n);
        for (int i = 0; i < n; i++) {
            call("put", s, i, signs.get(i));
        }
        call("text", s);
        call("wrong");
        for (int i = 0; i < 3; i++) {
            step("claim");
        }
    }

    private String run() {
        setOut();
        String[] theme = THEMES[below(THEMES.length)];
        while (fault == null && log.size() < CALLS) {
            int what = below(200);
            if (what < 2) {
                for (int i = below(18); i >= 0; i--) {
                    call("undo");
                }
                setOut();
            } else if (what < 10) {
                step(what < 6 ? "proof" : "terms");
            } else if (what < 140) {
                step(theme[below(theme.length)]);
            } else {
                step(NAMES[below(NAMES.length)]);
            }
        }
        return fault;
    }

    public static void main(String[] args) {
        long first = args.length > 0 ? Long.parseLong(args[0]) : 1;
        int runs = args.length > 1 ? Integer.parseInt(args[1]) : 1000;
        Check check = new Check("RandomRunsTest");
        for (long seed = first; seed < first + runs; seed++) {
            RandomRunsTest test = new RandomRunsTest(seed);
            String fault = test.run();
            check.holds("seed " + seed + ", call " + test.log.size() + ": " + fault, fault == null);
            if (fault != null && runs == 1) {
                test.log.forEach(System.out::println);
            }
        }
        check.end();
    }
}
