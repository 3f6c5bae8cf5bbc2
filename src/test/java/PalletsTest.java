/** Promises 27 to 33: pallets, claims. */
public final class PalletsTest {
    private static final Check CHECK = new Check("PalletsTest");

    private static void due(String call, int got, int want) {
        CHECK.due(call, got, want);
    }

    private static void promise27Owe() {
        LoadBourse x = new LoadBourse();
        due("27 some", x.owe(0, 9, 99), 99);
        due("27 more", x.owe(0, 9, 1), 100);
        due("27 the other way is another sum", x.owe(9, 0, -99), -99);
        due("27 nothing", x.owe(0, 9, 0), 100);
        due("27 less", x.owe(0, 9, -99), 1);
        due("27 below 0", x.owe(0, 9, -2), -1);
        due("27 n above", x.owe(0, 9, 100), Check.BEYOND);
        due("27 n below", x.owe(0, 9, -100), Check.BEYOND);
        due("27 firm below", x.owe(-1, 9, 1), Check.BEYOND);
        due("27 firm above", x.owe(10, 9, 1), Check.BEYOND);
        due("27 to below", x.owe(0, -1, 1), Check.BEYOND);
        due("27 to above", x.owe(0, 10, 1), Check.BEYOND);
        due("27 they are one", x.owe(5, 5, 1), Check.SIZE);
        due("27 BEYOND ahead of SIZE", x.owe(5, 5, 100), Check.BEYOND);
        LoadBourse y = new LoadBourse();
        for (int i = 1; i <= 101; i++) {
            due("27 up", y.owe(1, 2, 99), 99 * i);
            due("27 down", y.owe(2, 1, -99), -99 * i);
        }
        due("27 9999 may be", y.owe(1, 2, 0), 9999);
        due("27 10000 may not", y.owe(1, 2, 1), Check.FULL);
        due("27 -10000 may not", y.owe(2, 1, -1), Check.FULL);
        due("27 -9999 may be", y.owe(2, 1, 0), -9999);
        due("27 net", y.net(2), 2 * 9999);
    }

    private static void promise28Net() {
        LoadBourse x = new LoadBourse();
        x.owe(0, 1, 10);
        x.owe(1, 0, 3);
        x.owe(1, 9, 50);
        x.owe(9, 0, -20);
        due("28 of 0", x.net(0), 3 - 20 - 10);
        due("28 of 1", x.net(1), 10 - 3 - 50);
        due("28 of 9", x.net(9), 50 + 20);
        due("28 of another one", x.net(5), 0);
        due("28 below", x.net(-1), Check.BEYOND);
        due("28 above", x.net(10), Check.BEYOND);
    }

    private static void payments(String name, LoadBourse x, int... want) {
        due(name + ": how many", x.clearing(-1), want.length);
        for (int i = 0; i < want.length; i++) {
            due(name + ": payment " + i, x.clearing(i), want[i]);
        }
        due(name + ": no more", x.clearing(want.length), Check.NONE);
    }

    private static void promise29Clearing() {
        LoadBourse x = new LoadBourse();
        payments("29 nothing", x);
        x.owe(3, 4, 5);
        x.owe(4, 3, 5);
        payments("29 evened out", x);
        x.owe(9, 8, 7);
        payments("29 one", x, 9800007);
        x.owe(8, 9, 8);
        payments("29 the other way", x, 8900001);
        LoadBourse y = new LoadBourse();
        y.owe(1, 2, 10);
        y.owe(2, 3, 10);
        y.owe(3, 4, 10);
        payments("29 a chain", y, 1400010);
        LoadBourse z = new LoadBourse();
        z.owe(5, 0, 30);
        z.owe(6, 1, 30);
        z.owe(7, 2, 40);
        z.owe(8, 3, 20);
        // The most is 40 of firm 2, the least -40 of firm 7; then of like ones the least numbers.
        payments("29 by the sums", z, 7200040, 5000030, 6100030, 8300020);
        z.owe(5, 6, 15);
        // 5: -45, 7: -40, 8: -20, 6: -15; 2: 40, 0 and 1: 30, 3: 20.
        payments("29 parts", z, 5200040, 7000030, 8100020, 6300015, 7100010, 5300005);
        due("29 i below", z.clearing(-2), Check.BEYOND);
        due("29 i far below", z.clearing(Integer.MIN_VALUE), Check.BEYOND);
        due("29 i far above", z.clearing(Integer.MAX_VALUE), Check.NONE);
        due("29 nothing is moved", z.net(5), -45);
        LoadBourse most = new LoadBourse();
        for (int i = 1; i < 10; i++) {
            most.owe(i, 0, 10 + i);
        }
        payments("29 nine", most, 9000019, 8000018, 7000017, 6000016, 5000015, 4000014, 3000013, 2000012, 1000011);
    }

    private static void promise30Clear() {
        LoadBourse x = new LoadBourse();
        due("30 nothing", x.clear(), 0);
        x.owe(0, 1, 10);
        x.owe(2, 1, 10);
        x.owe(5, 6, 10);
        x.owe(6, 5, 10);
        due("30 two", x.clear(), 2);
        due("30 nothing is left", x.clear(), 0);
        due("30 also what was even", x.owe(5, 6, 1), 1);
        due("30 owes from nothing", x.owe(0, 1, 0), 0);
        due("30 undo owes", x.undo() + x.undo(), 8 + 7);
        due("30 undo the second one", x.undo(), 6);
        due("30 undo the first one", x.undo(), 5);
        due("30 it is as before", x.net(1), 20);
        due("30 each sum, too", x.owe(6, 5, 0), 10);
        due("30 clears again", x.clear(), 2);
    }

    private static int text(LoadBourse x, int... signs) {
        x.sheet(0, 32, signs.length);
        for (int i = 0; i < signs.length; i++) {
            x.put(0, i, signs[i]);
        }
        return x.text(0);
    }

    private static void promise31Text() {
        LoadBourse x = new LoadBourse();
        for (int sign = -3; sign < 70; sign++) {
            boolean is = sign >= 1 && sign <= 6 || sign >= 10 && sign <= 56;
            due("31 sign " + sign, text(x, 1, sign), is ? 2 : Check.BEYOND);
        }
        for (int v : Check.EXTREMES) {
            due("31 sign " + v, text(x, v), v == 41 ? 1 : Check.BEYOND);
        }
        due("31 none", text(x), 0);
        due("31 14", text(x, 1, 1, 1, 1, 1, 1, 1, 1, 1, 1, 1, 1, 1, 1), 14);
        due("31 15", text(x, 1, 1, 1, 1, 1, 1, 1, 1, 1, 1, 1, 1, 1, 1, 99), Check.SIZE);
        due("31 a finding leaves the text", x.wrong(), 5);
        due("31 missing", x.text(1), Check.MISSING);
        due("31 no sheet", x.text(4), Check.BEYOND);
        due("31 sheet below", x.text(-1), Check.BEYOND);
        text(x, 12);
        x.put(0, 0, 99);
        x.load(1, 0, 1, 1, 0);
        due("31 the text is not the sheet", x.claim(0, 0, 0), 2);
        due("31 undo the load", x.undo() >= 0 ? 1 : 0, 1);
        x.undo();
        due("31 the text of before", x.wrong(), 5);
    }

    private static void promise32Wrong() {
        LoadBourse x = new LoadBourse();
        due("32 empty", x.wrong(), -1);
        int[][] texts = {{1}, {50}, {1, 50}, {1, 2}, {1, 2, 50}, {1, 2, 50, 50}, {10, 10, 10, 10, 10},
            {10, 10, 10, 10, 10, 50, 50, 50, 50}, {10, 10, 10, 10, 10, 10}, {10, 10, 10, 10, 50, 10, 10, 10},
            {1, 2, 51, 3, 52, 4, 53, 5, 54, 6, 55, 10, 56}, {1, 2, 51, 3, 52, 4, 53, 5, 54, 6, 55, 10, 56, 49},
            {50, 1, 1, 1, 1, 1, 1}};
        int[] want = {-1, 0, 1, 2, -1, 3, 5, -1, 5, 7, -1, 14, 0};
        for (int i = 0; i < texts.length; i++) {
            text(x, texts[i]);
            due("32 text " + i, x.wrong(), want[i]);
        }
    }

    private static void claims(String name, LoadBourse x, int want, int... signs) {
        text(x, signs);
        due(name, x.claim(0, 30, 2), want);
    }

    private static void promise33Claim() {
        LoadBourse x = new LoadBourse();
        x.load(1, 0, 1, 1, 1);
        x.undo();
        x.load(34, 2, 9, 7, 500);
        x.load(34, 0, 9, 8, 600);
        x.contract(0, 2, 4);
        x.contract(1, 2, 5);
        x.contract(0, 4, 6);
        x.contract(0, 7, 8);
        x.trusts(6, true);
        x.trusts(2, false);
        due("33 an empty text", x.claim(0, 30, 2), 0);
        int[] facts = {0, 500, 30, 7, 2, 3, 25};
        for (int i = 1; i <= 6; i++) {
            claims("33 fact " + i, x, facts[i], i);
        }
        claims("33 0", x, 0, 10);
        claims("33 39", x, 39, 49);
        claims("33 sum", x, 507, 1, 3, 50);
        claims("33 less", x, 493, 1, 3, 51);
        claims("33 less than nothing", x, -493, 3, 1, 51);
        claims("33 product", x, 3500, 1, 3, 52);
        claims("33 quotient", x, 71, 1, 3, 53);
        claims("33 quotient below 0", x, -70, 3, 1, 51, 3, 53);
        claims("33 by 0", x, 0, 1, 10, 53);
        claims("33 the lesser", x, 7, 1, 3, 54);
        claims("33 the greater", x, 500, 3, 1, 55);
        claims("33 not less", x, 0, 1, 3, 56);
        claims("33 less", x, 1, 3, 1, 56);
        claims("33 as much is not less", x, 0, 1, 1, 56);
        claims("33 five at once", x, 10 - (11 + (12 * (13 - 14))), 20, 21, 22, 23, 24, 51, 52, 50, 51);
        claims("33 told as -99999", x, -99999, 10, 1, 1, 52, 51);
        // 500 * 500 * 500 * 7 * 7 is 6125000000.
        claims("33 wraps", x, 1830032704, 1, 1, 52, 1, 52, 3, 52, 3, 52);
        due("33 TRUST of another chain", claimOf(x, 6, 0, 30, 5), 0);
        due("33 of the other load", claimOf(x, 5, 1, 30, 2), 1);
        due("33 not late", claimOf(x, 2, 1, 0, 2), 0);
        due("33 very late", claimOf(x, 2, 1, 4000, 9), 4000);
        due("33 later", x.claim(0, 4001, 0), Check.BEYOND);
        due("33 late below", x.claim(0, -1, 0), Check.BEYOND);
        due("33 no load", x.claim(2, 0, 0), Check.BEYOND);
        due("33 load below", x.claim(-1, 0, 0), Check.BEYOND);
        due("33 firm below", x.claim(0, 0, -1), Check.BEYOND);
        due("33 firm above", x.claim(0, 0, 10), Check.BEYOND);
        text(x, 1, 1);
        due("33 BARRED", x.claim(0, 0, 0), Check.BARRED);
        due("33 BEYOND ahead of it", x.claim(0, 0, 10), Check.BEYOND);
    }

    private static void promise33EndsOfInts() {
        LoadBourse x = new LoadBourse();
        x.load(34, 2, 9, 32, 8192);
        // 8192 * 8192 * 32 is 2^31, which wraps to the least int; that by -1 is itself, and is told as -99999.
        claims("33 the least int", x, -99999, 1, 1, 52, 3, 52);
        claims("33 the least int by -1", x, -99999, 1, 1, 52, 3, 52, 10, 11, 51, 53);
        claims("33 less 1 is the greatest", x, Integer.MAX_VALUE, 1, 1, 52, 3, 52, 11, 51);
        x.pay(0, 9999);
        claims("33 -99998 is itself", x, -99998, 10, 1, 20, 52, 51, 18, 51);
        claims("33 -99999 is itself", x, -99999, 10, 1, 20, 52, 51, 19, 51);
        claims("33 -100000 is not", x, -99999, 10, 1, 20, 52, 51, 20, 51);
        due("33 none of these is a finding", x.all(5), 0);
    }

    private static int claimOf(LoadBourse x, int sign, int load, int late, int firm) {
        text(x, sign);
        return x.claim(load, late, firm);
    }

    public static void main(String[] args) {
        promise27Owe();
        promise28Net();
        promise29Clearing();
        promise30Clear();
        promise31Text();
        promise32Wrong();
        promise33Claim();
        promise33EndsOfInts();
        CHECK.end();
    }
}
