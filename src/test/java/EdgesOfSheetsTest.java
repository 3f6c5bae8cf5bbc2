import java.util.Arrays;

/** The edges of promises 34 to 39, and of paragraph 7: sheets, the whole. */
public final class EdgesOfSheetsTest {
    private static final Check CHECK = new Check("EdgesOfSheetsTest");
    private static final Edge EDGE = new Edge(CHECK);

    private static final int[] NO_SHEETS = {-1, 4, Integer.MIN_VALUE, Integer.MAX_VALUE};
    private static final int[] NO_BITS = {-32, -16, -8, -1, 1, 2, 7, 9, 15, 17, 24, 31, 33, 64, Integer.MIN_VALUE,
        Integer.MAX_VALUE};

    private static void due(String call, int got, int want) {
        CHECK.due(call, got, want);
    }

    private static int proves(LoadBourse x, int bits, int... rows) {
        x.sheet(3, bits, rows.length);
        for (int i = 0; i < rows.length; i++) {
            x.put(3, i, rows[i]);
        }
        return x.proves(3);
    }

    private static void promise34Ends() {
        for (int s : NO_SHEETS) {
            EDGE.refused("34 no sheet " + s, Edge.SOME, Check.BEYOND, x -> x.proves(s));
            EDGE.refused("34 BEYOND ahead of MISSING " + s, Edge.FRESH, Check.BEYOND, x -> x.proves(s));
        }
        for (int s = 0; s < 4; s++) {
            int missing = s;
            EDGE.refused("34 missing " + s, Edge.FRESH, Check.MISSING, x -> x.proves(missing));
        }
        EDGE.refused("34 MISSING ahead of SIZE", Edge.SOME, Check.MISSING, x -> x.proves(3));
        EDGE.refused("34 too few numbers", Edge.SOME, Check.SIZE, x -> x.proves(0));
        EDGE.refused("34 too many numbers", Edge.SOME, Check.SIZE, x -> x.proves(2));
        EDGE.asked("34 worth less", Edge.SOME, 4, x -> x.proves(1));
        for (int n = 0; n <= 20; n++) {
            LoadBourse x = Stocks.some();
            x.sheet(3, 8, n);
            due("34 " + n + " numbers for four lorries", x.proves(3), n == 4 ? 4 : Check.SIZE);
            LoadBourse none = new LoadBourse();
            none.sheet(3, 8, n);
            due("34 " + n + " numbers for no lorries", none.proves(3), n == 0 ? -1 : Check.SIZE);
        }
        EDGE.asked("34 no lorries, no numbers", () -> {
            LoadBourse x = new LoadBourse();
            x.sheet(0, 32, 0);
            return x;
        }, -1, x -> x.proves(0));
    }

    /** Lorries 0 to 3 of SOME may have 0 and 5, 2, nothing, 3; or 5, 2, 0, 3, which are worth as much. */
    private static void promise34Places() {
        int[][] right = {{106, 300, 0, 400}, {600, 300, 100, 400}};
        for (int[] rows : right) {
            due("34 right " + Arrays.toString(rows), proves(Stocks.some(), 16, rows), -1);
            due("34 right of 32 bits " + Arrays.toString(rows), proves(Stocks.some(), 32, rows), -1);
        }
        due("34 worth less by one lorry", proves(Stocks.some(), 16, 106, 300, 0, 0), 4);
        due("34 worth less without a second load", proves(Stocks.some(), 16, 100, 300, 0, 400), 4);
        // No such number, a load that is there already, given by hand, does not fit, no right drive.
        int[] bad = {-1, -100, 1, 6, 99, 101, 102, 107, 108, 109, 110, 199, 200, 500, 501, 606, 700, 800, 900, 1000,
            9999, 32767, -32768};
        for (int number : bad) {
            due("34 lorry 0 by " + number, proves(Stocks.some(), 16, number, 300, 0, 400), 0);
        }
        int[] badLater = {-1, 100, 101, 106, 200, 300, 301, 303, 400, 500, 600, 700};
        for (int number : badLater) {
            due("34 lorry 2 by " + number, proves(Stocks.some(), 16, 106, 300, number, 400), 2);
            due("34 lorry 2 is the first by " + number, proves(Stocks.some(), 16, 106, 300, number, -1), 2);
        }
        due("34 the last lorry", proves(Stocks.some(), 16, 106, 300, 0, 401), 3);
        due("34 the last lorry by a load of another one", proves(Stocks.some(), 16, 106, 300, 0, 600), 3);
    }

    /** With eight loads: the last number that can be, and those behind it. */
    private static void promise34LastLoads() {
        LoadBourse x = new LoadBourse();
        x.road(0, 1, 10);
        x.lorry(0, 0, 0, 40000, 40, 40);
        for (int i = 0; i < 8; i++) {
            x.load(i == 7 ? 10 : 1, 0, 1, 1, 100 + i);
        }
        due("34 load 6 and then 7", proves(x, 16, 708), -1);
        due("34 that is what it gets", 10 * x.gets(0, 0) + x.gets(0, 1), 67);
        int[] less = {0, 100, 102, 700, 706, 800, 801, 807};
        for (int number : less) {
            due("34 may be, for less: " + number, proves(x, 16, number), 1);
        }
        int[] none = {8, 709, 710, 808, 809, 810, 900, 901, 908, 1708, 65536 + 708};
        for (int number : none) {
            due("34 may not be: " + number, proves(x, 32, number), 0);
        }
        due("34 the lowest 16 bits", proves(x, 16, 65536 + 708), -1);
        due("34 the lowest 8 bits", proves(x, 8, 256 + 100), 1);
        x.give(6, 0);
        due("34 given by hand", proves(x, 16, 708), 0);
        due("34 the best without it", proves(x, 16, 608), -1);
        x.give(6, -1);
        due("34 no more given by hand", proves(x, 16, 608), 1);
    }

    private static void promise34WithoutARightDrive() {
        LoadBourse x = new LoadBourse();
        x.road(0, 1, 10);
        x.lorry(0, 0, 10, 191, 40, 40);
        x.lorry(0, 0, 10, 201, 40, 40);
        x.load(1, 0, 1, 1, 9999);
        due("34 none, though it is home too late", proves(x, 8, 0, 0), -1);
        due("34 worth", x.best(), -10);
        due("34 with a load it is too late, too", proves(x, 8, 100, 0), 0);
        due("34 and so is the other one", proves(x, 8, 0, 100), 1);
    }

    private static void promise35Ends() {
        for (int s : NO_SHEETS) {
            for (int n : new int[] {-1, 0, 20, 21}) {
                EDGE.refused("35 no sheet " + s + " of " + n, Edge.SOME, Check.BEYOND, x -> x.sheet(s, 8, n));
                EDGE.refused("35 no sheet to be missing " + s, Edge.SOME, Check.BEYOND, x -> x.sheet(s, 0, n));
            }
        }
        for (int bits : NO_BITS) {
            for (int n : new int[] {-1, 0, 20, 21}) {
                EDGE.refused("35 no bits " + bits + " of " + n, Edge.SOME, Check.BEYOND, x -> x.sheet(0, bits, n));
            }
        }
        for (int bits : new int[] {0, 8, 16, 32}) {
            for (int n : new int[] {-1, -2, Integer.MIN_VALUE}) {
                EDGE.refused("35 below 0, " + bits, Edge.SOME, Check.SIZE, x -> x.sheet(0, bits, n));
            }
            for (int n : new int[] {21, 22, Integer.MAX_VALUE}) {
                EDGE.refused("35 above 20, " + bits, Edge.SOME, Check.BEYOND, x -> x.sheet(0, bits, n));
            }
        }
        for (int s = 0; s < 4; s++) {
            int sheet = s;
            for (int bits : new int[] {8, 16, 32}) {
                EDGE.written("35 none", Edge.SOME, 0, x -> x.sheet(sheet, bits, 0), Check.BEYOND,
                    x -> x.put(sheet, 0, 1));
                EDGE.written("35 one", Edge.SOME, 1, x -> x.sheet(sheet, bits, 1), 0, x -> x.put(sheet, 0, 1));
                EDGE.written("35 20", Edge.SOME, 20, x -> x.sheet(sheet, bits, 20), 0, x -> x.put(sheet, 19, 1));
                EDGE.written("35 not 21", Edge.SOME, 20, x -> x.sheet(sheet, bits, 20), Check.BEYOND,
                    x -> x.put(sheet, 20, 1));
            }
            for (int n : new int[] {0, 1, 20}) {
                EDGE.written("35 missing", Edge.SOME, 0, x -> x.sheet(sheet, 0, n), Check.MISSING,
                    x -> x.put(sheet, 0, 1));
            }
        }
    }

    /** What a sheet had is no more: all its numbers are 0, and as many as it now has. */
    private static void promise35All0() {
        for (int bits = 8; bits <= 32; bits *= 2) {
            LoadBourse x = new LoadBourse();
            x.load(1, 0, 1, 1, 0);
            x.sheet(0, bits, 20);
            for (int i = 0; i < 20; i++) {
                x.put(0, i, 11);
            }
            x.sheet(0, bits, 20);
            x.sheet(1, bits, 1);
            for (int i = 0; i < 20; i++) {
                x.put(1, 0, 11);
                due("35 copied " + i, x.copy(0, i, 1, 0, 1), 1);
                due("35 is 0, " + i, x.text(1), Check.BEYOND);
            }
            x.sheet(0, bits, 2);
            due("35 the third number is no more", x.put(0, 2, 11), Check.BEYOND);
            x.sheet(0, 0, 0);
            x.sheet(0, bits, 3);
            due("35 is 0 when it was missing, too", x.text(0), Check.BEYOND);
        }
    }

    private static void promise36Ends() {
        for (int s : NO_SHEETS) {
            EDGE.refused("36 no sheet " + s, Edge.SOME, Check.BEYOND, x -> x.put(s, 0, 1));
            EDGE.refused("36 nor a number " + s, Edge.FRESH, Check.BEYOND, x -> x.put(s, -1, 1));
        }
        for (int i : new int[] {-1, 0, 20, Integer.MIN_VALUE, Integer.MAX_VALUE}) {
            EDGE.refused("36 MISSING ahead of BEYOND " + i, Edge.SOME, Check.MISSING, x -> x.put(3, i, 1));
        }
        int[] lengths = {3, 4, 20};
        for (int s = 0; s < 3; s++) {
            int sheet = s;
            for (int i : new int[] {-1, lengths[s], lengths[s] + 1, Integer.MIN_VALUE, Integer.MAX_VALUE}) {
                EDGE.refused("36 no number " + i, Edge.SOME, Check.BEYOND, x -> x.put(sheet, i, 1));
            }
            for (int i : new int[] {0, lengths[s] - 1}) {
                EDGE.written("36 number " + i, Edge.SOME, 0, x -> x.put(sheet, i, 1), 0, x -> x.put(sheet, i, 1));
            }
        }
    }

    /** Of what is put the lowest 8, 16 or 32 bits are kept; 10 to 49 are signs. */
    private static void promise36Bits() {
        int[][] puts = {{8, 49, 39}, {8, 256 + 49, 39}, {8, 49 - 256, 39}, {8, 65536 + 49, 39}, {8, 128 + 49, -1},
            {8, Integer.MIN_VALUE + 49, 39}, {16, 49, 39}, {16, 256 + 49, -1}, {16, 32768 + 49, -1},
            {16, 65536 + 49, 39},
            {16, 49 - 65536, 39}, {16, Integer.MIN_VALUE + 49, 39}, {32, 49, 39}, {32, 256 + 49, -1},
            {32, 65536 + 49, -1},
            {32, Integer.MIN_VALUE + 49, -1}, {8, Integer.MAX_VALUE, -1}, {16, Integer.MAX_VALUE, -1},
            {32, Integer.MAX_VALUE, -1}, {32, Integer.MIN_VALUE, -1}};
        for (int[] p : puts) {
            LoadBourse x = new LoadBourse();
            x.load(1, 0, 1, 1, 0);
            x.sheet(2, p[0], 1);
            due("36 put " + Arrays.toString(p), x.put(2, 0, p[1]), 0);
            due("36 is a sign " + Arrays.toString(p), x.text(2), p[2] < 0 ? Check.BEYOND : 1);
            due("36 is told " + Arrays.toString(p), x.claim(0, 0, 0), Math.max(p[2], 0));
        }
    }

    private static void promise37Ends() {
        for (int s : NO_SHEETS) {
            EDGE.refused("37 no sheet " + s, Edge.SOME, Check.BEYOND, x -> x.copy(s, 0, 0, 0, 1));
            EDGE.refused("37 no other sheet " + s, Edge.SOME, Check.BEYOND, x -> x.copy(0, 0, s, 0, 1));
            EDGE.refused("37 neither " + s, Edge.SOME, Check.BEYOND, x -> x.copy(s, 0, s, 0, 1));
            EDGE.refused("37 BEYOND ahead of MISSING " + s, Edge.SOME, Check.BEYOND, x -> x.copy(3, 0, s, 0, 1));
            EDGE.refused("37 BEYOND ahead of MISSING, too " + s, Edge.SOME, Check.BEYOND, x -> x.copy(s, 0, 3, 0, 1));
        }
        EDGE.refused("37 missing", Edge.SOME, Check.MISSING, x -> x.copy(3, 0, 0, 0, 1));
        EDGE.refused("37 the other one is", Edge.SOME, Check.MISSING, x -> x.copy(0, 0, 3, 0, 1));
        EDGE.refused("37 both are", Edge.SOME, Check.MISSING, x -> x.copy(3, 0, 3, 0, 0));
        EDGE.refused("37 MISSING ahead of BEYOND", Edge.SOME, Check.MISSING, x -> x.copy(3, -1, 0, 0, 1));
        EDGE.refused("37 MISSING ahead of BEYOND, too", Edge.SOME, Check.MISSING, x -> x.copy(0, 0, 3, 0, -1));
        int[][] unlike = {{0, 1}, {0, 2}, {1, 2}, {1, 0}, {2, 0}, {2, 1}};
        for (int[] u : unlike) {
            EDGE.refused("37 not as many bits", Edge.SOME, Check.KIND, x -> x.copy(u[0], 0, u[1], 0, 1));
            EDGE.refused("37 nor for none", Edge.SOME, Check.KIND, x -> x.copy(u[0], 0, u[1], 0, 0));
            EDGE.refused("37 KIND ahead of BEYOND", Edge.SOME, Check.KIND, x -> x.copy(u[0], -1, u[1], 0, 1));
            EDGE.refused("37 KIND ahead of BEYOND, to", Edge.SOME, Check.KIND, x -> x.copy(u[0], 0, u[1], 21, 1));
            EDGE.refused("37 KIND ahead of BEYOND, n", Edge.SOME, Check.KIND, x -> x.copy(u[0], 0, u[1], 0, -1));
        }
    }

    /** Sheet 0 has 5 numbers, 11 to 15; sheet 1 has 3, all 20; both are of so many bits. */
    private static LoadBourse two(int bits) {
        LoadBourse x = new LoadBourse();
        x.load(1, 0, 1, 1, 0);
        x.sheet(0, bits, 5);
        for (int i = 0; i < 5; i++) {
            x.put(0, i, 11 + i);
        }
        x.sheet(1, bits, 3);
        for (int i = 0; i < 3; i++) {
            x.put(1, i, 20);
        }
        return x;
    }

    private static void promise37Lengths() {
        for (int bits = 8; bits <= 32; bits *= 2) {
            int b = bits;
            Edge.Stock stock = () -> two(b);
            int[][] beyond = {{0, 0, 4}, {0, 1, 3}, {0, 2, 2}, {0, 3, 1}, {0, 4, 0}, {3, 0, 3}, {4, 0, 2}, {5, 0, 1},
                {6, 0, 0}, {-1, 0, 1}, {0, -1, 1}, {0, 0, -1}, {-1, -1, 0}, {1, 1, -1}, {-1, 0, 0}, {0, -1, 0},
                {Integer.MAX_VALUE, 0, 1}, {0, Integer.MAX_VALUE, 1}, {0, 0, Integer.MAX_VALUE},
                {Integer.MIN_VALUE, 0, 1}, {0, Integer.MIN_VALUE, 1}, {0, 0, Integer.MIN_VALUE},
                {1, 1, Integer.MAX_VALUE}, {Integer.MAX_VALUE, Integer.MAX_VALUE, Integer.MAX_VALUE},
                {Integer.MAX_VALUE, 0, Integer.MIN_VALUE}, {1, 0, Integer.MIN_VALUE}};
            for (int[] c : beyond) {
                EDGE.refused("37 beyond " + Arrays.toString(c), stock, Check.BEYOND,
                    x -> x.copy(0, c[0], 1, c[1], c[2]));
            }
            int[][] taken = {{0, 0, 3}, {1, 0, 3}, {2, 0, 3}, {3, 0, 2}, {4, 0, 1}, {5, 0, 0}, {0, 1, 2}, {0, 2, 1},
                {0, 3, 0}, {0, 0, 0}, {4, 2, 1}};
            for (int[] c : taken) {
                EDGE.written("37 taken " + Arrays.toString(c), stock, c[2], x -> x.copy(0, c[0], 1, c[1], c[2]),
                    expected(c), x -> numbersOf(x, b, 1, 3));
            }
            EDGE.written("37 the other way", stock, 3, x -> x.copy(1, 0, 0, 2, 3), 1021010, x -> numbersOf(x, b, 0, 4));
        }
    }

    /** What sheet 1 of two() has behind a copy, as numbersOf() tells it. */
    private static int expected(int[] copy) {
        int[] numbers = {10, 10, 10};
        for (int i = 0; i < copy[2]; i++) {
            numbers[copy[1] + i] = 1 + copy[0] + i;
        }
        return 10000 * numbers[0] + 100 * numbers[1] + numbers[2];
    }

    /** The numbers of a sheet, less 10 each, by hundreds. */
    private static int numbersOf(LoadBourse x, int bits, int s, int n) {
        int told = 0;
        x.sheet(2, bits, 1);
        for (int i = 0; i < n; i++) {
            x.copy(s, i, 2, 0, 1);
            x.text(2);
            told = 100 * told + x.claim(0, 0, 0);
        }
        return told;
    }

    /** Within one sheet what is copied is what was there ahead of the call. */
    private static void promise37OneSheet() {
        for (int bits = 8; bits <= 32; bits *= 2) {
            LoadBourse x = two(bits);
            due("37 forward", x.copy(0, 0, 0, 1, 4), 4);
            due("37 is 1, 1, 2, 3", numbersOf(x, bits, 0, 4), 1010203);
            due("37 and 4", numbersOf(x, bits, 0, 5) % 100, 4);
            LoadBourse y = two(bits);
            due("37 back", y.copy(0, 1, 0, 0, 4), 4);
            due("37 is 2, 3, 4, 5", numbersOf(y, bits, 0, 4), 2030405);
            due("37 and 5 again", numbersOf(y, bits, 0, 5) % 100, 5);
            due("37 onto itself", y.copy(0, 0, 0, 0, 5), 5);
            due("37 is as it was", numbersOf(y, bits, 0, 4), 2030405);
        }
        LoadBourse full = new LoadBourse();
        full.sheet(0, 32, 20);
        full.sheet(3, 32, 20);
        due("37 all 20", full.copy(0, 0, 3, 0, 20), 20);
        due("37 not 21", full.copy(0, 0, 3, 0, 21), Check.BEYOND);
        due("37 the last one", full.copy(0, 19, 3, 19, 1), 1);
        due("37 none behind it", full.copy(0, 20, 3, 20, 0), 0);
    }

    /** What is done on sheets is not undone. */
    private static void promise38Sheets() {
        LoadBourse x = new LoadBourse();
        x.sheet(0, 8, 2);
        x.put(0, 0, 11);
        x.copy(0, 0, 0, 1, 1);
        x.sheet(1, 16, 1);
        x.sheet(1, 0, 0);
        EDGE.refused("38 nothing was done", Edge.FRESH, Check.NONE, LoadBourse::undo);
        due("38 sheets only", x.undo(), Check.NONE);
        due("38 they stay", x.text(0), 2);
        due("38 the text is undone", x.undo(), 0);
        due("38 they stay, too", x.text(0), 2);
    }

    private static Edge.Call[] acts() {
        return new Edge.Call[] {x -> x.road(0, 1, 7), x -> x.lorry(0, 0, 0, 0, 1, 1), x -> x.load(1, 0, 1, 1, 1),
            x -> x.window(0, true, 1, 2), x -> x.window(0, false, 1, 2), x -> x.pay(0, 1), x -> x.give(0, 0),
            x -> x.paid(1, 1, 1), x -> x.contract(0, 0, 1), x -> x.report(0, 0, 1), x -> x.trusts(0, true),
            x -> x.trusts(0, false), x -> x.owe(0, 1, 1), LoadBourse::clear, x -> x.text(0)};
    }

    /** A bourse in which each act can be done. */
    private static LoadBourse ready() {
        LoadBourse x = new LoadBourse();
        x.lorry(0, 0, 0, 0, 1, 1);
        x.load(1, 0, 1, 1, 1);
        x.sheet(0, 8, 1);
        x.put(0, 0, 11);
        return x;
    }

    /** Each kind of act is one that can be undone, once, whether it changed something or not. */
    private static void promise38EachAct() {
        Edge.Stock stock = EdgesOfSheetsTest::ready;
        for (int i = 0; i < acts().length; i++) {
            Edge.Call act = acts()[i];
            CHECK.holds("38 act " + i + " is no finding", act.on(ready()) > -100000);
            EDGE.taken("38 act " + i, stock, act.on(ready()), act, 2, LoadBourse::undo);
            LoadBourse x = ready();
            act.on(x);
            act.on(x);
            due("38 twice, act " + i, x.undo(), 3);
            due("38 once more, act " + i, x.undo(), 2);
            due("38 the load, act " + i, x.undo(), 1);
            due("38 the lorry, act " + i, x.undo(), 0);
            due("38 nothing is left, act " + i, x.undo(), Check.NONE);
        }
    }

    /** What only tells is nothing that can be undone, nor is a call with a finding. */
    private static void promise38NoActs() {
        Edge.Call[] calls = {x -> x.far(0, 0), x -> x.as(0, 0), x -> x.lorryIs(0, 0), x -> x.loadIs(0, 0),
            x -> x.why(0, -1, -1), x -> x.drive(0, -1, -1, 0), LoadBourse::best, x -> x.empty(true), x -> x.worth(0),
            x -> x.span(1, 1, 3), x -> x.chain(0, 0, true), x -> x.doubles(0), x -> x.cannot(0, false),
            x -> x.trust(0, true), x -> x.net(0), x -> x.clearing(-1), LoadBourse::wrong, x -> x.claim(0, 0, 0),
            x -> x.proves(0), x -> x.all(5)};
        Edge.Stock stock = EdgesOfSheetsTest::ready;
        for (int i = 0; i < calls.length; i++) {
            Edge.Call call = calls[i];
            EDGE.asked("38 call " + i, stock, call.on(ready()), call);
        }
    }

    /** The latest 16 are kept, whatever they are. */
    private static void promise38Sixteen() {
        for (int n = 0; n <= 20; n++) {
            LoadBourse x = new LoadBourse();
            for (int i = 1; i <= n; i++) {
                x.trusts(0, true);
            }
            for (int left = Math.min(n, 16) - 1; left >= 0; left--) {
                due("38 of " + n + " acts", x.undo(), left);
            }
            due("38 no more of " + n, x.undo(), Check.NONE);
            due("38 nor once more of " + n, x.undo(), Check.NONE);
            due("38 what stays of " + n, x.trusts(0, true), Math.max(n - 16, 0) + 1);
        }
        LoadBourse x = new LoadBourse();
        x.load(1, 0, 1, 1, 1);
        for (int i = 0; i < 16; i++) {
            x.pay(0, 1);
        }
        for (int i = 15; i >= 0; i--) {
            due("38 that changed nothing", x.undo(), i);
        }
        due("38 the load is older than 16", x.undo(), Check.NONE);
        due("38 and stays", x.all(1), 1);
    }

    /** What was undone is forgotten: an act behind it takes its place. */
    private static void promise38Behind() {
        LoadBourse x = new LoadBourse();
        for (int i = 1; i <= 16; i++) {
            x.road(0, 1, i);
        }
        due("38 the last", x.undo(), 15);
        due("38 and the one ahead", x.undo(), 14);
        x.road(0, 1, 100);
        due("38 another one", x.undo(), 14);
        due("38 is undone", x.far(0, 1), 14);
        x.road(0, 1, 101);
        x.road(0, 1, 102);
        x.road(0, 1, 103);
        due("38 sixteen again", x.undo(), 15);
        due("38 102", x.far(0, 1), 102);
        for (int i = 14; i >= 0; i--) {
            x.undo();
        }
        due("38 all but the first", x.far(0, 1), 1);
        due("38 that is forgotten", x.undo(), Check.NONE);
    }

    private static void promise39Ends() {
        EDGE.ends("39 all", Edge.SOME, new int[] {0}, new int[][] {{0, 5}}, (x, a) -> x.all(a[0]));
        EDGE.ends("39 all of a new one", Edge.FRESH, new int[] {0}, new int[][] {{0, 5}}, (x, a) -> x.all(a[0]));
        int[] some = {4, 6, 6, 6, 5, 0};
        int[] full = {6, 8, 40, 20, 30, 0};
        for (int what = 0; what < 6; what++) {
            int w = what;
            EDGE.asked("39 some " + w, Edge.SOME, some[w], x -> x.all(w));
            EDGE.asked("39 full " + w, Edge.FULL, full[w], x -> x.all(w));
            EDGE.asked("39 none " + w, Edge.FRESH, 0, x -> x.all(w));
        }
    }

    /** All 512 calls of an object may answer a finding. */
    private static void promise39ManyFindings() {
        LoadBourse x = new LoadBourse();
        for (int i = 1; i <= 500; i++) {
            x.all(i % 2 == 0 ? -i : 5 + i);
        }
        due("39 five hundred", x.all(5), 500);
        due("39 one more", x.undo(), Check.NONE);
        due("39 five hundred and one", x.all(5), 501);
        x.road(0, 1, 1);
        due("39 undo without a finding", x.undo(), 0);
        due("39 takes none of them back", x.all(5), 501);
    }

    public static void main(String[] args) {
        promise34Ends();
        promise34Places();
        promise34LastLoads();
        promise34WithoutARightDrive();
        promise35Ends();
        promise35All0();
        promise36Ends();
        promise36Bits();
        promise37Ends();
        promise37Lengths();
        promise37OneSheet();
        promise38Sheets();
        promise38EachAct();
        promise38NoActs();
        promise38Sixteen();
        promise38Behind();
        promise39Ends();
        promise39ManyFindings();
        CHECK.end();
    }
}
