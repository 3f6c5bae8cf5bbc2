/** Bourses in states that the tests of edges begin with. Each is made by far fewer than 512 calls. */
final class Stocks {
    /** The sheets of some(): 0 is a text, 1 tells a row for each lorry, 2 has all numbers it can, 3 is MISSING. */
    private static final int[] TEXT = {1, 2, 51};

    private Stocks() {
    }

    static LoadBourse fresh() {
        return new LoadBourse();
    }

    /** Something of everything, and place for more: four lorries of the four kinds, six loads. */
    static LoadBourse some() {
        LoadBourse x = new LoadBourse();
        roads(x);
        x.lorry(0, 0, 0, 40000, 20, 20);
        x.lorry(1, 2, 60, 9002, 30, 10);
        x.lorry(2, 0, 5, 20001, 21, 20);
        x.lorry(3, 1, 0, 40001, 40, 40);
        x.load(1, 0, 10, 10, 500);
        x.load(10, 0, 10, 10, 300);
        x.load(12, 1, 30, 10, 900);
        x.load(2, 2, 1, 1, 999);
        x.load(5, 0, 1, 1, 9999);
        x.load(21, 0, 11, 20, 700);
        x.window(0, false, 100, 130);
        x.window(0, true, 50, 3000);
        x.give(1, 2);
        firms(x);
        pallets(x);
        sheets(x);
        x.pay(0, 510);
        return x;
    }

    private static void roads(LoadBourse x) {
        x.road(0, 1, 100);
        x.road(1, 2, 150);
        x.road(0, 2, 300);
        x.road(2, 3, 60);
        x.road(5, 6, 10);
    }

    private static void firms(LoadBourse x) {
        int[][] contracts = {{0, 0, 1}, {0, 1, 2}, {0, 1, 3}, {0, 2, 0}, {0, 0, 4}, {5, 9, 8}};
        for (int[] c : contracts) {
            x.contract(c[0], c[1], c[2]);
        }
        int[][] reports = {{0, 0, 0}, {0, 1, 50}, {0, 1, 100}, {0, 7, 4000}, {3, 2, 5}};
        for (int[] r : reports) {
            x.report(r[0], r[1], r[2]);
        }
        int[][] prices = {{1, 0, 500}, {1, 29, 300}, {1, 30, 400}, {1, 59, 100}, {12, 365, 9999}, {77, 0, 0}};
        for (int[] p : prices) {
            x.paid(p[0], p[1], p[2]);
        }
        x.trusts(4, true);
        x.trusts(4, true);
        x.trusts(4, false);
        x.trusts(9, false);
    }

    private static void pallets(LoadBourse x) {
        x.owe(0, 1, 10);
        x.owe(1, 2, 20);
        x.owe(2, 3, 5);
        x.owe(9, 8, -7);
    }

    private static void sheets(LoadBourse x) {
        x.sheet(0, 8, TEXT.length);
        for (int i = 0; i < TEXT.length; i++) {
            x.put(0, i, TEXT[i]);
        }
        x.text(0);
        x.sheet(1, 16, 4);
        x.put(1, 0, 100);
        x.sheet(2, 32, 20);
        for (int i = 0; i < 20; i++) {
            x.put(2, i, 10 + i);
        }
    }

    /** As many lorries, loads, prices, contracts and reports as may be, and a text that is not RIGHT. */
    static LoadBourse full() {
        LoadBourse x = new LoadBourse();
        roads(x);
        for (int i = 0; i < 6; i++) {
            x.lorry(i % 4, i % 3, 10 * i, 40000 + i % 3, 20 + i, 20 + i);
        }
        for (int i = 0; i < 8; i++) {
            x.load(new int[] {1, 10, 12, 21, 20, 2, 5, 23}[i], i % 3, 5 + i, 6 + i, 100 * i);
        }
        for (int i = 0; i < 40; i++) {
            x.paid(i % 2 == 0 ? 1 : 12, 9 * i, 17 * i);
        }
        for (int i = 0; i < 20; i++) {
            x.contract(i % 8, i % 10, (i + 1 + i / 10) % 10);
        }
        for (int i = 0; i < 30; i++) {
            x.report(i % 6, i % 8, 133 * i);
        }
        for (int s = 0; s < 4; s++) {
            x.sheet(s, 8, s == 0 ? 14 : 20);
        }
        for (int i = 0; i < 14; i++) {
            x.put(0, i, 10 + i);
        }
        x.text(0);
        return x;
    }

    /** Firm 9 has 200, done and failed ones. */
    static LoadBourse judged() {
        LoadBourse x = new LoadBourse();
        x.load(1, 0, 1, 1, 1);
        for (int i = 0; i < 200; i++) {
            x.trusts(9, i % 2 == 0);
        }
        return x;
    }

    /** Firm 1 owes 2 as much as may be, and 2 owes 1 as little; 9 and 0 are one short of it. */
    static LoadBourse owing() {
        LoadBourse x = new LoadBourse();
        x.load(1, 0, 1, 1, 1);
        for (int i = 0; i < 101; i++) {
            x.owe(1, 2, 99);
            x.owe(2, 1, -99);
            x.owe(9, 0, i == 100 ? 98 : 99);
        }
        return x;
    }
}
