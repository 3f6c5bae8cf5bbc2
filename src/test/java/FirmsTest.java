/** Promises 20 to 26: contracts, reports, trust. */
public final class FirmsTest {
    private static final Check CHECK = new Check("FirmsTest");

    private static void due(String call, int got, int want) {
        CHECK.due(call, got, want);
    }

    private static LoadBourse withLoads(int n) {
        LoadBourse x = new LoadBourse();
        for (int i = 0; i < n; i++) {
            x.load(1, 0, 1, 1, 0);
        }
        return x;
    }

    private static void promise20Contract() {
        LoadBourse x = withLoads(2);
        due("20 first", x.contract(0, 0, 9), 0);
        due("20 again", x.contract(0, 0, 9), 1);
        due("20 no load", x.contract(2, 0, 1), Check.BEYOND);
        due("20 load below", x.contract(-1, 0, 1), Check.BEYOND);
        due("20 by below", x.contract(0, -1, 1), Check.BEYOND);
        due("20 by above", x.contract(0, 10, 1), Check.BEYOND);
        due("20 to below", x.contract(0, 1, -1), Check.BEYOND);
        due("20 to above", x.contract(0, 1, 10), Check.BEYOND);
        due("20 they are one", x.contract(1, 4, 4), Check.SIZE);
        due("20 BEYOND ahead of SIZE", x.contract(1, 10, 10), Check.BEYOND);
        due("20 none came", x.all(3), 2);
        for (int i = 2; i < 20; i++) {
            due("20 more", x.contract(1, i % 10, (i + 1) % 10), i);
        }
        due("20 full", x.contract(1, 0, 1), Check.FULL);
        due("20 SIZE ahead of full", x.contract(1, 1, 1), Check.SIZE);
        due("20 twenty", x.all(3), 20);
    }

    private static void promise21Chain() {
        LoadBourse x = withLoads(2);
        due("21 none", x.chain(0, 3, false), 0);
        due("21 ends where it begins", x.chain(0, 3, true), 3);
        x.contract(0, 3, 4);
        x.contract(1, 4, 9);
        x.contract(0, 4, 5);
        x.contract(0, 4, 6);
        x.contract(0, 5, 3);
        due("21 goes round and stops", x.chain(0, 3, false), 3);
        due("21 back where it began", x.chain(0, 3, true), 3);
        x.contract(0, 3, 4);
        due("21 each contract once", x.chain(0, 3, false), 5);
        due("21 and the second one then", x.chain(0, 3, true), 6);
        due("21 of the other load", x.chain(1, 4, true), 9);
        due("21 from elsewhere", x.chain(0, 5, false), 3);
        due("21 from elsewhere ends", x.chain(0, 5, true), 5);
        due("21 no load", x.chain(2, 0, false), Check.BEYOND);
        due("21 load below", x.chain(-1, 0, true), Check.BEYOND);
        due("21 firm below", x.chain(0, -1, true), Check.BEYOND);
        due("21 firm above", x.chain(0, 10, false), Check.BEYOND);
        LoadBourse y = withLoads(1);
        for (int i = 0; i < 20; i++) {
            y.contract(0, i % 2, 1 - i % 2);
        }
        due("21 twenty", y.chain(0, 0, false), 20);
        due("21 from the other end", y.chain(0, 1, false), 20);
        due("21 and ends", y.chain(0, 1, true), 1);
    }

    private static void promise22Doubles() {
        LoadBourse x = withLoads(2);
        due("22 none", x.doubles(0), 0);
        x.contract(0, 9, 1);
        x.contract(0, 9, 1);
        due("22 twice to one firm", x.doubles(0), 0);
        x.contract(1, 9, 2);
        due("22 another load", x.doubles(0), 0);
        x.contract(0, 8, 2);
        due("22 another firm", x.doubles(0), 0);
        x.contract(0, 9, 0);
        due("22 to two", x.doubles(0), 1);
        x.contract(0, 9, 3);
        due("22 to three", x.doubles(0), 1);
        x.contract(0, 8, 9);
        due("22 two firms", x.doubles(0), 2);
        due("22 not of the other one", x.doubles(1), 0);
        LoadBourse y = withLoads(1);
        y.contract(0, 0, 1);
        y.contract(0, 0, 9);
        due("22 firm 0, by its first contract, too", y.doubles(0), 1);
        due("22 no load", x.doubles(2), Check.BEYOND);
        due("22 load below", x.doubles(-1), Check.BEYOND);
    }

    private static void promise23Report() {
        LoadBourse x = new LoadBourse();
        x.lorry(0, 0, 0, 0, 1, 1);
        due("23 first", x.report(0, 0, 0), 0);
        due("23 last", x.report(0, 7, 4000), 1);
        due("23 no lorry", x.report(1, 0, 0), Check.BEYOND);
        due("23 lorry below", x.report(-1, 0, 0), Check.BEYOND);
        due("23 town below", x.report(0, -1, 0), Check.BEYOND);
        due("23 town above", x.report(0, 8, 0), Check.BEYOND);
        due("23 minute below", x.report(0, 0, -1), Check.BEYOND);
        due("23 minute above", x.report(0, 0, 4001), Check.BEYOND);
        due("23 none came", x.all(4), 2);
        for (int i = 2; i < 30; i++) {
            due("23 more", x.report(0, 0, i), i);
        }
        due("23 full", x.report(0, 0, 0), Check.FULL);
        due("23 BEYOND ahead of full", x.report(0, 8, 0), Check.BEYOND);
        due("23 thirty", x.all(4), 30);
    }

    private static void promise24Cannot() {
        LoadBourse x = new LoadBourse();
        x.lorry(0, 0, 0, 0, 1, 1);
        x.lorry(0, 0, 0, 0, 1, 1);
        x.road(0, 1, 60);
        x.road(1, 2, 60);
        due("24 none", x.cannot(0, false), 0);
        due("24 no first one", x.cannot(0, true), Check.NONE);
        x.report(1, 5, 500);
        x.report(0, 0, 100);
        x.report(0, 1, 160);
        due("24 just 60", x.cannot(0, false), 0);
        x.report(0, 2, 50);
        // 0 to 2 are 120 minutes, with 50 between; 1 to 2 are 60, with 110.
        due("24 the later one is told first", x.cannot(0, false), 1);
        due("24 the first", x.cannot(0, true), 103);
        x.report(0, 0, 219);
        due("24 59 minutes for 60", x.cannot(0, false), 2);
        due("24 still the first", x.cannot(0, true), 103);
        x.report(0, 7, 4000);
        due("24 a town that can't be come to", x.cannot(0, false), 6);
        due("24 the other lorry", x.cannot(1, false), 0);
        due("24 has no first one", x.cannot(1, true), Check.NONE);
        x.report(1, 5, 500);
        due("24 the same town at the same minute", x.cannot(1, false), 0);
        x.road(2, 7, 400);
        due("24 roads as they are now", x.cannot(0, false), 2);
        due("24 no lorry", x.cannot(2, false), Check.BEYOND);
        due("24 lorry below", x.cannot(-1, true), Check.BEYOND);
        LoadBourse y = new LoadBourse();
        y.lorry(0, 0, 0, 0, 1, 1);
        for (int i = 0; i < 30; i++) {
            y.report(0, i % 8, 0);
        }
        // Of 435 pairs 6 times 6 and 2 times 3 are in one town: eight towns with 4, 4, 4, 4, 4, 4, 3, 3 reports.
        due("24 thirty reports", y.cannot(0, false), 435 - 6 * 6 - 2 * 3);
        due("24 the first of them", y.cannot(0, true), 1);
    }

    private static void promise25Trusts() {
        LoadBourse x = new LoadBourse();
        for (int i = 1; i <= 200; i++) {
            due("25 n", x.trusts(9, i % 3 == 0), i);
        }
        due("25 full", x.trusts(9, true), Check.FULL);
        due("25 full of failed ones too", x.trusts(9, false), Check.FULL);
        due("25 66 of 200", x.trust(9, false), 6600 / 203);
        due("25 66 and 3", x.trust(9, true), 6900 / 203);
        due("25 another firm", x.trusts(0, false), 1);
        due("25 below", x.trusts(-1, true), Check.BEYOND);
        due("25 above", x.trusts(10, false), Check.BEYOND);
    }

    private static void promise26Trust() {
        LoadBourse x = new LoadBourse();
        due("26 unknown", x.trust(3, false), 0);
        due("26 unknown, greatest", x.trust(3, true), 100);
        x.trusts(3, true);
        due("26 one done", x.trust(3, false), 25);
        due("26 one done, greatest", x.trust(3, true), 100);
        x.trusts(3, false);
        due("26 one failed", x.trust(3, false), 20);
        due("26 one failed, greatest", x.trust(3, true), 80);
        x.trusts(3, false);
        due("26 cut", x.trust(3, false), 16);
        due("26 cut, greatest", x.trust(3, true), 66);
        due("26 another firm", x.trust(4, true), 100);
        for (int i = 0; i < 197; i++) {
            x.trusts(7, true);
        }
        due("26 197 of 197", x.trust(7, false), 98);
        due("26 197 of 197, greatest", x.trust(7, true), 100);
        due("26 below", x.trust(-1, true), Check.BEYOND);
        due("26 above", x.trust(10, false), Check.BEYOND);
    }

    public static void main(String[] args) {
        promise20Contract();
        promise21Chain();
        promise22Doubles();
        promise23Report();
        promise24Cannot();
        promise25Trusts();
        promise26Trust();
        CHECK.end();
    }
}
