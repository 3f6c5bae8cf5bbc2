import java.util.Arrays;

/** The edges of promises 27 to 33, and of paragraphs 5 and 6: pallets, claims. */
public final class EdgesOfPalletsTest {
    private static final Check CHECK = new Check("EdgesOfPalletsTest");
    private static final Edge EDGE = new Edge(CHECK);

    private static final int[] FIRM = {0, 9};
    private static final int[] AT_ONCE = {-99, 99};
    private static final int[] NO_FIRMS = {-1, 10, Integer.MIN_VALUE, Integer.MAX_VALUE};

    private static void due(String call, int got, int want) {
        CHECK.due(call, got, want);
    }

    private static Edge.Calls owe() {
        return (x, a) -> x.owe(a[0], a[1], a[2]);
    }

    private static void promise27Ends() {
        int[][] ranges = {FIRM, FIRM, AT_ONCE};
        EDGE.ends("27 owe", Edge.SOME, new int[] {4, 5, 7}, ranges, owe());
        EDGE.ends("27 owe of a new one", Edge.FRESH, new int[] {4, 5, 0}, ranges, owe());
        for (int firm = 0; firm < 10; firm++) {
            int f = firm;
            for (int n : new int[] {-99, 0, 99}) {
                EDGE.refused("27 they are one, " + f, Edge.SOME, Check.SIZE, x -> x.owe(f, f, n));
            }
            for (int n : new int[] {-100, 100, Integer.MIN_VALUE, Integer.MAX_VALUE}) {
                EDGE.refused("27 BEYOND ahead of SIZE, " + f, Edge.SOME, Check.BEYOND, x -> x.owe(f, f, n));
            }
        }
        for (int firm : NO_FIRMS) {
            EDGE.refused("27 no firm twice, " + firm, Edge.SOME, Check.BEYOND, x -> x.owe(firm, firm, 1));
        }
        EDGE.taken("27 the most at once", Edge.SOME, 109, x -> x.owe(0, 1, 99), 109 - 20, x -> x.net(1));
        EDGE.taken("27 the least at once", Edge.SOME, -89, x -> x.owe(0, 1, -99), -89 - 20, x -> x.net(1));
        EDGE.taken("27 nothing", Edge.SOME, 10, x -> x.owe(0, 1, 0), 10, x -> x.owe(0, 1, 0));
        EDGE.taken("27 none at all", Edge.SOME, 0, x -> x.owe(0, 1, -10), -20, x -> x.net(1));
        EDGE.taken("27 -1 is no finding", Edge.SOME, -1, x -> x.owe(0, 1, -11), -21, x -> x.net(1));
        EDGE.taken("27 the other way", Edge.SOME, 7, x -> x.owe(1, 0, 7), 10, x -> x.owe(0, 1, 0));
    }

    private static void promise27Full() {
        int[][] above = {{1, 2, 1}, {1, 2, 99}, {2, 1, -1}, {2, 1, -99}, {9, 0, 2}, {9, 0, 99}};
        for (int[] a : above) {
            EDGE.refused("27 full " + Arrays.toString(a), Edge.OWING, Check.FULL, x -> owe().on(x, a));
        }
        int[][] taken = {{1, 2, 0, 9999}, {1, 2, -1, 9998}, {1, 2, -99, 9900}, {2, 1, 0, -9999}, {2, 1, 1, -9998},
            {2, 1, 99, -9900}, {9, 0, 1, 9999}, {9, 0, 0, 9998}, {0, 9, 99, 99}, {1, 3, 99, 99}};
        for (int[] a : taken) {
            EDGE.taken("27 not full " + Arrays.toString(a), Edge.OWING, a[3], x -> owe().on(x, a), a[3],
                x -> x.owe(a[0], a[1], 0));
        }
        EDGE.refused("27 BEYOND ahead of FULL", Edge.OWING, Check.BEYOND, x -> x.owe(1, 2, 100));
        EDGE.refused("27 BEYOND ahead of FULL below", Edge.OWING, Check.BEYOND, x -> x.owe(2, 1, -100));
        LoadBourse x = Stocks.owing();
        due("27 one less", x.owe(2, 1, 1), -9998);
        due("27 two more are too many", x.owe(2, 1, -2), Check.FULL);
        due("27 one more is not", x.owe(2, 1, -1), -9999);
    }

    private static void promise28Ends() {
        EDGE.ends("28 net", Edge.SOME, new int[] {4}, new int[][] {FIRM}, (x, a) -> x.net(a[0]));
        int[] nets = {-10, 10 - 20, 20 - 5, 5, 0, 0, 0, 0, -7, 7};
        int[] most = {9998, -2 * 9999, 2 * 9999, 0, 0, 0, 0, 0, 0, -9998};
        for (int firm = 0; firm < 10; firm++) {
            int f = firm;
            EDGE.asked("28 net of " + f, Edge.SOME, nets[f], x -> x.net(f));
            EDGE.asked("28 net of " + f + " in a new one", Edge.FRESH, 0, x -> x.net(f));
            EDGE.asked("28 the most, net of " + f, Edge.OWING, most[f], x -> x.net(f));
        }
    }

    private static void promise29Ends() {
        for (int i : new int[] {-2, -3, Integer.MIN_VALUE}) {
            EDGE.refused("29 i " + i, Edge.SOME, Check.BEYOND, x -> x.clearing(i));
            EDGE.refused("29 i " + i + " of a new one", Edge.FRESH, Check.BEYOND, x -> x.clearing(i));
        }
        EDGE.asked("29 none", Edge.FRESH, 0, x -> x.clearing(-1));
        for (int i : new int[] {0, 1, 9, 10, Integer.MAX_VALUE}) {
            EDGE.refused("29 no payment " + i, Edge.FRESH, Check.NONE, x -> x.clearing(i));
        }
        // 15 for firm 2, 7 for 9, 5 for 3; of 0 and 1 ten each, of 8 seven.
        int[] payments = {200010, 1900007, 8200005, 1300003, 8300002};
        EDGE.asked("29 how many", Edge.SOME, payments.length, x -> x.clearing(-1));
        for (int i = 0; i < payments.length; i++) {
            int p = i;
            EDGE.asked("29 payment " + p, Edge.SOME, payments[p], x -> x.clearing(p));
        }
        for (int i : new int[] {payments.length, payments.length + 1, 10, 11, Integer.MAX_VALUE}) {
            EDGE.refused("29 no payment " + i, Edge.SOME, Check.NONE, x -> x.clearing(i));
        }
        EDGE.asked("29 two", Edge.OWING, 2, x -> x.clearing(-1));
        EDGE.asked("29 the most", Edge.OWING, 1200000 + 2 * 9999, x -> x.clearing(0));
        EDGE.asked("29 the last", Edge.OWING, 9000000 + 9998, x -> x.clearing(1));
        EDGE.refused("29 no third", Edge.OWING, Check.NONE, x -> x.clearing(2));
    }

    private static void payments(String name, LoadBourse x, int... want) {
        due(name + ": how many", x.clearing(-1), want.length);
        for (int i = 0; i < want.length; i++) {
            due(name + ": payment " + i, x.clearing(i), want[i]);
        }
        due(name + ": no more", x.clearing(want.length), Check.NONE);
    }

    /** Of like ones the least numbers, and as many payments as there can be. */
    private static void paragraph5Clearing() {
        LoadBourse x = new LoadBourse();
        for (int firm = 0; firm < 5; firm++) {
            x.owe(9 - firm, firm, 10);
        }
        payments("5 all alike", x, 5000010, 6100010, 7200010, 8300010, 9400010);
        x.owe(9, 4, 1);
        payments("5 the last ones have one more", x, 9400011, 5000010, 6100010, 7200010, 8300010);
        LoadBourse nine = new LoadBourse();
        for (int firm = 0; firm < 9; firm++) {
            nine.owe(9, firm, 1 + firm);
        }
        payments("5 one pays nine", nine, 9800009, 9700008, 9600007, 9500006, 9400005, 9300004, 9200003, 9100002,
            9000001);
        due("5 nine are done", nine.clear(), 9);
        LoadBourse below = new LoadBourse();
        below.owe(0, 9, -1);
        payments("5 who owes less than nothing is owed", below, 9000001);
        below.owe(9, 0, -1);
        payments("5 evened out", below);
        below.owe(0, 1, 5);
        below.owe(1, 2, 5);
        below.owe(2, 0, 5);
        payments("5 in a ring", below);
        due("5 and nothing is to be paid", below.clear(), 0);
        due("5 but all is forgotten", below.owe(1, 2, 0), 0);
    }

    private static void promise30Ends() {
        EDGE.taken("30 nothing", Edge.FRESH, 0, LoadBourse::clear, 0, x -> x.clearing(-1));
        EDGE.taken("30 five", Edge.SOME, 5, LoadBourse::clear, 0, x -> x.clearing(-1));
        EDGE.taken("30 no finding behind it", Edge.SOME, 5, LoadBourse::clear, Check.NONE, x -> x.clearing(0));
        EDGE.taken("30 two", Edge.OWING, 2, LoadBourse::clear, 0, x -> x.net(1));
        EDGE.taken("30 there is place again", Edge.OWING, 2, LoadBourse::clear, 99, x -> x.owe(1, 2, 99));
        EDGE.taken("30 both ways", Edge.OWING, 2, LoadBourse::clear, 0, x -> x.owe(2, 1, 0));
        LoadBourse x = new LoadBourse();
        due("30 nothing is an act", x.clear() + x.clear(), 0);
        due("30 that is undone", x.undo(), 1);
        due("30 and the other one", x.undo(), 0);
        due("30 and no more", x.undo(), Check.NONE);
    }

    private static int text(LoadBourse x, int bits, int... signs) {
        x.sheet(3, bits, signs.length);
        for (int i = 0; i < signs.length; i++) {
            x.put(3, i, signs[i]);
        }
        return x.text(3);
    }

    /** A bourse with a text of two signs on sheet 0, one of them being this; load 0 is worth 500. */
    private static LoadBourse with(int bits, int sign, boolean last) {
        LoadBourse x = new LoadBourse();
        x.load(1, 0, 1, 1, 500);
        text(x, bits, 1);
        x.sheet(0, bits, 2);
        x.put(0, 0, last ? 20 : sign);
        x.put(0, 1, last ? sign : 20);
        return x;
    }

    private static void promise31Signs() {
        for (int bits = 8; bits <= 32; bits *= 2) {
            int b = bits;
            for (int sign : new int[] {1, 6, 10, 49, 50, 56}) {
                due("31 first sign " + sign, with(b, sign, false).text(0), 2);
                due("31 last sign " + sign, with(b, sign, true).text(0), 2);
            }
            for (int sign : new int[] {-128, -1, 0, 7, 8, 9, 57, 58, 99, 127}) {
                EDGE.refused("31 first sign " + sign, () -> with(b, sign, false), Check.BEYOND, x -> x.text(0));
                EDGE.refused("31 last sign " + sign, () -> with(b, sign, true), Check.BEYOND, x -> x.text(0));
            }
        }
    }

    private static void promise31Ends() {
        for (int s : new int[] {-1, 4, Integer.MIN_VALUE, Integer.MAX_VALUE}) {
            EDGE.refused("31 no sheet " + s, Edge.SOME, Check.BEYOND, x -> x.text(s));
            EDGE.refused("31 BEYOND ahead of MISSING " + s, Edge.FRESH, Check.BEYOND, x -> x.text(s));
        }
        for (int s = 0; s < 4; s++) {
            int missing = s;
            EDGE.refused("31 missing " + s, Edge.FRESH, Check.MISSING, x -> x.text(missing));
        }
        EDGE.refused("31 20 signs", Edge.SOME, Check.SIZE, x -> x.text(2));
        EDGE.refused("31 no sign", Edge.SOME, Check.BEYOND, x -> x.text(1));
        EDGE.refused("31 SIZE ahead of BEYOND", Edge.FULL, Check.SIZE, x -> x.text(1));
        EDGE.taken("31 the same text", Edge.SOME, 3, x -> x.text(0), 505, x -> x.claim(0, 5, 0));
        int[] signs = new int[15];
        Arrays.fill(signs, 11);
        LoadBourse x = new LoadBourse();
        due("31 13", text(x, 8, Arrays.copyOf(signs, 13)), 13);
        due("31 14", text(x, 8, Arrays.copyOf(signs, 14)), 14);
        due("31 15", text(x, 8, signs), Check.SIZE);
        signs[0] = 99;
        due("31 15 with one that is no sign", text(x, 8, signs), Check.SIZE);
        due("31 14 with one that is no sign", text(x, 8, Arrays.copyOf(signs, 14)), Check.BEYOND);
        due("31 it is still the text of 14", x.wrong(), 5);
        due("31 none", text(x, 16), 0);
        due("31 is right", x.wrong(), -1);
        due("31 undone", x.undo(), 2);
        due("31 is the text of 14", x.wrong(), 5);
    }

    /** The text is what the sheet was, as long and no longer. */
    private static void promise31Shorter() {
        LoadBourse x = new LoadBourse();
        x.load(1, 0, 1, 1, 500);
        text(x, 8, 11, 12, 50, 13, 50, 14, 50, 15, 50, 16, 50, 17, 50);
        due("31 a long one", x.claim(0, 0, 0), 28);
        text(x, 32, 19);
        due("31 a short one behind it", x.claim(0, 0, 0), 9);
        x.sheet(3, 0, 0);
        due("31 the sheet is no more", x.claim(0, 0, 0), 9);
        x.undo();
        due("31 the long one again", x.claim(0, 0, 0), 28);
        x.undo();
        due("31 the empty one again", x.claim(0, 0, 0), 0);
    }

    private static void promise32Places() {
        EDGE.asked("32 empty", Edge.FRESH, -1, LoadBourse::wrong);
        EDGE.asked("32 right", Edge.SOME, -1, LoadBourse::wrong);
        EDGE.asked("32 the sixth number", Edge.FULL, 5, LoadBourse::wrong);
        int[][] texts = {{10}, {10, 10}, {10, 10, 10, 10, 10}, {10, 10, 10, 10, 10, 10}, {50}, {10, 50}, {10, 10, 50},
            {10, 10, 50, 56}, {10, 10, 10, 10, 10, 50, 51, 52, 53}, {10, 10, 10, 10, 10, 54, 55, 56, 50, 51},
            {10, 10, 10, 10, 10, 50, 10, 10}, {10, 10, 10, 10, 10, 50, 10, 50, 50, 50, 50},
            {10, 10, 50, 10, 50, 10, 50, 10, 50, 10, 50, 10, 50, 10},
            {10, 10, 50, 10, 50, 10, 50, 10, 50, 10, 50, 10, 50, 50},
            {6, 49, 56}, {1, 6, 49, 56, 50}, {49, 50, 49}, {1, 2, 3, 4, 5, 6}};
        int[] want = {-1, 2, 5, 5, 0, 1, -1, 3, -1, 9, 7, -1, 14, 13, -1, -1, 1, 5};
        for (int i = 0; i < texts.length; i++) {
            LoadBourse x = new LoadBourse();
            x.load(1, 0, 1, 1, 500);
            text(x, 16, texts[i]);
            due("32 text " + i, x.wrong(), want[i]);
            int claim = x.claim(0, 0, 0);
            CHECK.holds("33 BARRED or not, text " + i + ": " + claim, (claim == Check.BARRED) == (want[i] != -1));
        }
    }

    private static void promise33Ends() {
        int[][] ranges = {{0, 5}, {0, 4000}, FIRM};
        EDGE.ends("33 claim", Edge.SOME, new int[] {1, 50, 5}, ranges, (x, a) -> x.claim(a[0], a[1], a[2]));
        EDGE.beyondFirst("33 barred", Edge.FULL, new int[] {1, 50, 5}, new int[][] {{0, 7}, {0, 4000}, FIRM},
            Check.BARRED, (x, a) -> x.claim(a[0], a[1], a[2]));
        EDGE.asked("33 not late", Edge.SOME, 510, x -> x.claim(0, 0, 0));
        EDGE.asked("33 just as late", Edge.SOME, 0, x -> x.claim(0, 510, 0));
        EDGE.asked("33 below 0 is no finding", Edge.SOME, -1, x -> x.claim(0, 511, 0));
        EDGE.asked("33 as late as may be", Edge.SOME, 510 - 4000, x -> x.claim(0, 4000, 9));
    }

    private static void claims(String name, LoadBourse x, int want, int... signs) {
        due(name + ": signs", text(x, 8, signs), signs.length);
        due(name, x.claim(0, 4000, 9), want);
    }

    /** Each fact at its ends. */
    private static void paragraph6Facts() {
        LoadBourse x = new LoadBourse();
        x.load(76, 2, 40, 40, 9999);
        claims("6 the most paid", x, 9999, 1);
        claims("6 the latest", x, 4000, 2);
        claims("6 the most tons", x, 40, 3);
        claims("6 dangerous", x, 2, 4);
        claims("6 no contracts", x, 0, 5);
        claims("6 no trust", x, 0, 6);
        claims("6 the least number", x, 0, 10);
        claims("6 the greatest number", x, 39, 49);
        for (int i = 0; i < 20; i++) {
            x.contract(0, i % 2 == 0 ? 9 : 8, i % 2 == 0 ? 8 : 9);
        }
        claims("6 twenty contracts", x, 20, 5);
        x.trusts(8, true);
        claims("6 who carries is not who took it first", x, 0, 6);
        for (int i = 0; i < 4; i++) {
            x.trusts(9, true);
        }
        claims("6 four of four", x, 57, 6);
        LoadBourse y = new LoadBourse();
        y.load(1, 0, 1, 1, 0);
        claims("6 nothing paid", y, 0, 1);
        claims("6 the least tons", y, 1, 3);
        claims("6 dry", y, 0, 4);
        claims("6 an empty text", y, 0);
    }

    private static void paragraph6Joins() {
        LoadBourse x = new LoadBourse();
        x.load(76, 2, 40, 40, 9999);
        claims("6 sum", x, 39 + 38, 49, 48, 50);
        claims("6 less", x, 38 - 39, 48, 49, 51);
        claims("6 product", x, 39 * 38, 49, 48, 52);
        claims("6 cut", x, 9, 49, 14, 53);
        claims("6 cut below 0", x, -9, 10, 49, 51, 14, 53);
        claims("6 by one below 0", x, -9, 49, 10, 14, 51, 53);
        claims("6 by 0", x, 0, 49, 10, 53);
        claims("6 0 by 0", x, 0, 10, 10, 53);
        claims("6 0 by one", x, 0, 10, 11, 53);
        claims("6 the lesser, first", x, 38, 48, 49, 54);
        claims("6 the lesser, last", x, 38, 49, 48, 54);
        claims("6 the lesser of like ones", x, 39, 49, 49, 54);
        claims("6 the greater, first", x, 39, 49, 48, 55);
        claims("6 the greater, last", x, 39, 48, 49, 55);
        claims("6 is less", x, 1, 48, 49, 56);
        claims("6 is as much", x, 0, 49, 49, 56);
        claims("6 is more", x, 0, 49, 48, 56);
        claims("6 below 0 is less", x, 1, 10, 11, 51, 10, 56);
        claims("6 five at once", x, 1 + 2 + 3 + 4 + 5, 11, 12, 13, 14, 15, 50, 50, 50, 50);
    }

    /** What comes out below -99999 is told as that; ints wrap. */
    private static void promise33Least() {
        LoadBourse x = new LoadBourse();
        x.load(76, 2, 40, 40, 9999);
        claims("33 -99998", x, -99998, 10, 1, 20, 52, 51, 18, 51);
        claims("33 -99999", x, -99999, 10, 1, 20, 52, 51, 19, 51);
        claims("33 -100000", x, -99999, 10, 1, 20, 52, 51, 20, 51);
        claims("33 -100001", x, -99999, 10, 1, 20, 52, 51, 21, 51);
        claims("33 -100008", x, -99999, 10, 1, 20, 52, 51, 28, 51);
        due("33 none is a finding", x.all(5), 0);
        // 9999 * 9999 * 40 is 3999200040, which wraps to -295767256.
        claims("33 wraps below 0", x, -99999, 1, 1, 52, 3, 52);
        claims("33 and is less than 0", x, 1, 1, 1, 52, 3, 52, 10, 56);
        claims("33 and back", x, 295767256, 10, 1, 1, 52, 3, 52, 51);
        x.pay(0, 8192);
        // 8192 * 8192 * 32 is the least int; by -1 it is itself.
        claims("33 the least int", x, 1, 1, 1, 52, 42, 52, 10, 56);
        claims("33 less one is the greatest", x, Integer.MAX_VALUE, 1, 1, 52, 42, 52, 11, 51);
        claims("33 the least by -1", x, 1, 1, 1, 52, 42, 52, 10, 11, 51, 53, 10, 56);
    }

    public static void main(String[] args) {
        promise27Ends();
        promise27Full();
        promise28Ends();
        promise29Ends();
        paragraph5Clearing();
        promise30Ends();
        promise31Signs();
        promise31Ends();
        promise31Shorter();
        promise32Places();
        promise33Ends();
        paragraph6Facts();
        paragraph6Joins();
        promise33Least();
        CHECK.end();
    }
}
