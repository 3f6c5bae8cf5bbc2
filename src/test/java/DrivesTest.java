/** Promises 12 to 17: drives, and the giving. */
public final class DrivesTest {
    private static final Check CHECK = new Check("DrivesTest");

    private static void due(String call, int got, int want) {
        CHECK.due(call, got, want);
    }

    /** A LORRY of the first kind that stands in a town at minute 0 and has time to come home. */
    private static void lorry(LoadBourse x, int town, int home) {
        x.lorry(0, town, 0, 40000 + home, 40, 40);
    }

    private static void load(LoadBourse x, int way, int pay) {
        x.load(way, 0, 1, 1, pay);
    }

    private static void drives(String name, LoadBourse x, int[] row, int... want) {
        for (int what = 0; what < want.length; what++) {
            due(name + " " + what, x.drive(row[0], row[1], row[2], what), want[what]);
        }
        due(name + " why", x.why(row[0], row[1], row[2]), 0);
    }

    private static void promise12Why() {
        LoadBourse x = new LoadBourse();
        x.road(0, 1, 100);
        x.road(1, 2, 100);
        x.lorry(0, 0, 50, 5000, 20, 20);
        load(x, 12, 0);
        load(x, 3, 0);
        load(x, 30, 0);
        load(x, 10, 0);
        x.load(12, 1, 1, 1, 0);
        due("12 none at all", x.why(0, -1, -1), 0);
        // Fetched at 150, brought at 280, home at 510.
        due("12 home too late", x.why(0, 0, -1), 4);
        due("12 the first load's TO can't be come to", x.why(0, 1, -1), 1);
        due("12 nor its FROM", x.why(0, 2, -1), 1);
        due("12 nor the second one's", x.why(0, 0, 2), 1);
        x.window(0, false, 0, 149);
        due("12 behind the window, ahead of what can't be come to", x.why(0, 0, 2), 3);
        x.window(0, false, 0, 150);
        due("12 the window's last minute", x.why(0, 0, 2), 1);
        x.window(0, true, 0, 279);
        due("12 behind the other window", x.why(0, 0, 2), 3);
        x.window(0, true, 0, 280);
        due("12 its last minute", x.why(0, 0, -1), 4);
        due("12 KIND", x.why(0, 4, -1), Check.KIND);
        due("12 KIND of the second", x.why(0, 0, 4), Check.KIND);
        due("12 no lorry", x.why(1, 0, -1), Check.BEYOND);
        due("12 lorry below", x.why(-1, 0, -1), Check.BEYOND);
        due("12 no load", x.why(0, 5, -1), Check.BEYOND);
        due("12 load below", x.why(0, -2, -1), Check.BEYOND);
        due("12 no second load", x.why(0, 0, 5), Check.BEYOND);
        due("12 second load below", x.why(0, 0, -2), Check.BEYOND);
        due("12 they are one", x.why(0, 0, 0), Check.BEYOND);
        due("12 none ahead of one", x.why(0, -1, 0), Check.BEYOND);
        due("12 BEYOND ahead of KIND", x.why(0, 4, 4), Check.BEYOND);
        due("12 a load that is given may be driven", x.give(0, 0) + x.why(0, 0, -1), -1 + 4);
    }

    private static void promise12TooMuch() {
        LoadBourse x = new LoadBourse();
        x.road(0, 1, 300);
        x.road(1, 2, 240);
        lorry(x, 0, 2);
        due("12 just 540", x.why(0, -1, -1), 0);
        x.road(1, 2, 241);
        due("12 more than 540", x.why(0, -1, -1), 2);
        load(x, 2, 0);
        x.window(0, true, 0, 0);
        due("12 2 is asked ahead of the way", x.why(0, 0, -1), 2);
        x.window(0, false, 10, 20);
        load(x, 12, 0);
        x.window(1, false, 0, 299);
        due("12 3 at the first place", x.why(0, 1, -1), 3);
        x.lorry(0, 0, 0, 3442, 40, 40);
        due("12 home behind what may be driven", x.why(1, -1, -1), 2);
        x.road(1, 2, 0);
        due("12 1 is less than 2", x.why(0, -1, -1), 1);
    }

    private static void promise12HomeByTheMinute() {
        LoadBourse x = new LoadBourse();
        x.road(0, 1, 271);
        x.lorry(0, 0, 4, 3201, 1, 1);
        x.lorry(0, 0, 4, 3191, 1, 1);
        due("12 home at 320 by 320", x.why(0, -1, -1), 0);
        due("12 home at 320 by 319", x.why(1, -1, -1), 4);
        x.lorry(0, 3, 2000, 13, 1, 1);
        due("12 is home, but too late", x.why(2, -1, -1), 4);
    }

    private static void promise13Rests() {
        LoadBourse x = new LoadBourse();
        int[] none = {0, -1, -1};
        int[] one = {0, 0, -1};
        lorry(x, 0, 1);
        x.road(0, 1, 270);
        drives("13 270 at once", x, none, 270, 270, 270, 0, -270, 0);
        x.road(0, 1, 271);
        drives("13 271 at once", x, none, 316, 271, 271, 1, -271, 0);
        x.road(0, 1, 300);
        x.road(1, 2, 240);
        lorry(x, 0, 2);
        drives("13 540 at once", x, new int[] {1, -1, -1}, 585, 540, 540, 1, -540, 0);

        LoadBourse y = new LoadBourse();
        y.road(0, 1, 270);
        lorry(y, 0, 0);
        load(y, 1, 1000);
        // The driver has driven 270 as the load is brought, and rests ahead of the way home.
        drives("13 a dock is no rest", y, one, 645, 540, 270, 1, 730, 0);
        y.window(0, true, 344, 4000);
        drives("13 waits 44", y, one, 344 + 30 + 45 + 270, 540, 270, 1, 730, 44);
        y.window(0, true, 345, 4000);
        drives("13 waits 45 and is rested", y, one, 345 + 30 + 270, 540, 270, 0, 730, 45);
        y.window(0, true, 0, 4000);
        y.window(0, false, 44, 4000);
        drives("13 waits ahead of the first dock", y, one, 689, 540, 270, 1, 730, 44);
    }

    private static void promise13TwoLoads() {
        LoadBourse x = new LoadBourse();
        x.road(0, 1, 20);
        x.road(1, 2, 40);
        x.road(2, 3, 80);
        x.road(3, 4, 160);
        x.lorry(0, 0, 7, 40004, 40, 40);
        load(x, 12, 500);
        load(x, 34, 600);
        // 7, 27 at 1, 57, 97 at 2, 127, 207 at 3, 237, 397 and a rest? 20 + 40 + 80 + 160 = 300: at 270, so 442 at 4.
        drives("13 two loads", x, new int[] {0, 0, 1}, 472, 300, 100, 1, 1000, 0);
        // The other way round: 260 to 3, then 10 more ahead of a rest.
        due("13 too much the other way round", x.why(0, 1, 0), 2);
        x.window(1, false, 230, 240);
        drives("13 waits 23", x, new int[] {0, 0, 1}, 230 + 30 + 160 + 45 + 30, 300, 100, 1, 1000, 23);
        x.window(1, true, 4000, 4000);
        due("13 home too late", x.drive(0, 0, 1, 0), Check.NONE);
        due("13 another what", x.drive(0, 0, 1, 6), Check.BEYOND);
        due("13 what below", x.drive(0, 0, 1, -1), Check.BEYOND);
        x.load(12, 2, 1, 1, 0);
        due("13 KIND ahead of what", x.drive(0, 2, -1, 6), Check.KIND);
        due("13 BEYOND", x.drive(0, 3, -1, 0), Check.BEYOND);
        due("13 no lorry", x.drive(1, 0, -1, 0), Check.BEYOND);
        due("13 none ahead of one", x.drive(0, -1, 0, 0), Check.BEYOND);
        due("13 one twice", x.drive(0, 1, 1, 0), Check.BEYOND);
    }

    /** Home is where it stands, so that going nowhere is worth 0. */
    private static LoadBourse twoTowns(int lorries) {
        LoadBourse x = new LoadBourse();
        x.road(0, 1, 50);
        for (int i = 0; i < lorries; i++) {
            lorry(x, 0, 0);
        }
        return x;
    }

    private static void promise14Best() {
        LoadBourse x = twoTowns(1);
        due("14 nothing to do", x.best(), 0);
        load(x, 1, 49);
        due("14 a load that is worth less than none", x.best(), 0);
        x.pay(0, 51);
        due("14 a load that is worth more", x.best(), 1);
        load(x, 10, 10);
        due("14 both ways", x.best(), 61);
        x.give(1, 0);
        due("14 one is given by hand", x.best(), 1);
        x.give(1, -1);
        lorry(x, 0, 1);
        // Lorry 1 takes load 0 home; lorry 0 would take both for 61, with lorry 1 going home empty.
        due("14 two lorries", x.best(), 51);
        x.pay(1, 70);
        // Lorry 1 goes to town 1 with load 0; lorry 0 goes there empty and back with load 1.
        due("14 one for each", x.best(), 51 + 20);
        x.pay(0, 80);
        // Lorry 0 takes both, and lorry 1 goes home for -50: or as above.
        due("14 of two ways the better", x.best(), 100);
        x.lorry(0, 5, 0, 40000, 1, 1);
        due("14 a lorry that goes nowhere is worth 0", x.best(), 100);
        LoadBourse y = new LoadBourse();
        y.road(0, 1, 100);
        lorry(y, 0, 1);
        lorry(y, 1, 0);
        due("14 both go home empty", y.best(), -200);
        due("14 one can't be home in time", y.lorry(0, 0, 100, 1991, 1, 1) + y.best(), 2 - 200);
    }

    private static void gets(String name, LoadBourse x, int... want) {
        for (int i = 0; i < want.length; i++) {
            due(name + " " + i, x.gets(i / 2, i % 2), want[i] < 0 ? Check.NONE : want[i]);
        }
    }

    private static void promise15Gets() {
        LoadBourse x = twoTowns(2);
        load(x, 1, 50);
        gets("15 none is ahead", x, -1, -1, -1, -1);
        x.pay(0, 90);
        gets("15 the first lorry has none", x, -1, -1, 0, -1);
        load(x, 10, 50);
        gets("15 one alone is ahead of two", x, -1, -1, 0, 1);
        x.pay(1, 60);
        gets("15 both by one", x, -1, -1, 0, 1);
        load(x, 1, 90);
        load(x, 1, 90);
        // One takes 0 or 2 or 3, and 1 back, for 100; the other one two of them, with 50 empty twice.
        gets("15 the first loads that do", x, 0, 1, 2, 3);
        due("15 no lorry", x.gets(2, 0), Check.BEYOND);
        due("15 lorry below", x.gets(-1, 0), Check.BEYOND);
        due("15 i above", x.gets(0, 2), Check.BEYOND);
        due("15 i below", x.gets(0, -1), Check.BEYOND);
    }

    private static void promise15Order() {
        LoadBourse x = new LoadBourse();
        x.road(0, 1, 50);
        lorry(x, 0, 1);
        load(x, 1, 100);
        load(x, 10, 100);
        load(x, 1, 100);
        // 0 and then 1, and home empty, are worth as much as 0, back empty, and 2.
        gets("15 by the second load", x, 0, 1);
        due("15 worth", x.best(), 150);
        x.pay(1, 99);
        gets("15 by the first load again", x, 0, 2);
        due("15 worth as much", x.best(), 150);
        x.pay(1, 150);
        gets("15 by the first load", x, 0, 1);
        due("15 worth more", x.best(), 200);
        LoadBourse y = twoTowns(1);
        load(y, 1, 100);
        load(y, 10, 0);
        // Home empty for 50, or with load 1 for 0 less.
        gets("15 home with a load", y, 0, 1);
        y.window(1, false, 0, 10);
        gets("15 home without one", y, 0, -1);
        LoadBourse z = new LoadBourse();
        z.road(0, 1, 50);
        lorry(z, 0, 1);
        load(z, 1, 100);
        load(z, 1, 50);
        gets("15 one alone ahead of two that are worth as much", z, 0, -1);
        z.pay(1, 51);
        gets("15 two that are worth more", z, 0, 1);
    }

    /** Six loads there, one back and one there that pays as much: all rows are right and worth more than none. */
    private static LoadBourse full(int lorries) {
        LoadBourse x = new LoadBourse();
        x.road(0, 1, 10);
        for (int i = 0; i < lorries; i++) {
            lorry(x, 0, 0);
        }
        for (int i = 0; i < 6; i++) {
            load(x, 1, 100);
        }
        load(x, 10, 9000);
        load(x, 1, 9000);
        return x;
    }

    private static void promise15Full() {
        LoadBourse x = full(1);
        gets("15 the last row of all", x, 7, 6);
        due("15 is worth", x.best(), 18000);
        due("15 the other way round", x.drive(0, 6, 7, 4), 17980);
        due("15 worth without its first load", x.worth(7), 9000 - 100);
        LoadBourse y = full(6);
        gets("15 six lorries", y, -1, -1, -1, -1, 0, 1, 2, 3, 4, 5, 7, 6);
        // Each load there comes back empty, but for one.
        due("15 are worth", y.best(), 600 + 18000 - 60);
        due("15 empty", y.empty(false), 60);
        due("15 worth of load 0", y.worth(0), 90);
        y.give(0, 5);
        gets("15 without load 0", y, -1, -1, -1, -1, 1, -1, 2, 3, 4, 5, 7, 6);
        y.give(7, 5);
        y.give(5, 5);
        gets("15 five loads", y, -1, -1, -1, -1, -1, -1, 1, -1, 2, 3, 4, 6);
    }

    private static void promise16Empty() {
        LoadBourse x = new LoadBourse();
        x.road(0, 1, 50);
        x.road(1, 2, 30);
        lorry(x, 0, 1);
        lorry(x, 2, 0);
        due("16 without", x.empty(true), 130);
        due("16 by the giving of none", x.empty(false), 130);
        load(x, 1, 100);
        due("16 with a load", x.empty(false), 80);
        due("16 without it", x.empty(true), 130);
        load(x, 21, 100);
        due("16 with two", x.empty(false), 50);
        x.lorry(0, 7, 0, 40000, 1, 1);
        due("16 a lorry that can't come home", x.empty(true), 130);
        x.lorry(0, 0, 1999, 20481, 1, 1);
        due("16 a lorry too late", x.empty(true), 130);
        x.lorry(0, 0, 1999, 20491, 1, 1);
        due("16 a lorry in time", x.empty(true), 180);
        due("16 by the giving", x.empty(false), 100);
    }

    private static void promise17Worth() {
        LoadBourse x = twoTowns(1);
        load(x, 1, 100);
        due("17 the only one", x.worth(0), 50);
        load(x, 1, 90);
        // Both, with 50 empty twice, are worth 90.
        due("17 another one is there", x.worth(0), 50);
        due("17 and is worth less", x.worth(1), 40);
        load(x, 10, 20);
        due("17 home with a load", x.worth(2), 30);
        due("17 what is not got is worth nothing", x.worth(1), 0);
        x.give(0, 0);
        due("17 given by hand", x.worth(0), 0);
        due("17 the other one then", x.worth(1), 110);
        due("17 no load", x.worth(3), Check.BEYOND);
        due("17 load below", x.worth(-1), Check.BEYOND);
        due("17 it is left as it was", x.best(), 110);
    }

    public static void main(String[] args) {
        promise12Why();
        promise12TooMuch();
        promise12HomeByTheMinute();
        promise13Rests();
        promise13TwoLoads();
        promise14Best();
        promise15Gets();
        promise15Order();
        promise15Full();
        promise16Empty();
        promise17Worth();
        CHECK.end();
    }
}
