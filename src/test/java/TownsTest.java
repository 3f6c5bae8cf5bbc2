/** Promises 1 to 11: towns, lorries, loads. */
public final class TownsTest {
    private static final Check CHECK = new Check("TownsTest");

    private static void due(String call, int got, int want) {
        CHECK.due(call, got, want);
    }

    private static void promise1NewObject() {
        LoadBourse x = new LoadBourse();
        for (int what = 0; what <= 5; what++) {
            due("1 all " + what, x.all(what), 0);
        }
        due("1 undo", x.undo(), Check.NONE);
        for (int a = 0; a < 8; a++) {
            for (int b = 0; b < 8; b++) {
                due("1 far " + a + " " + b, x.far(a, b), a == b ? 0 : Check.NONE);
                due("1 span " + a + " " + b, x.span(10 * a + b, 365, 3), 0);
            }
        }
        for (int f = 0; f < 10; f++) {
            due("1 net", x.net(f), 0);
            due("1 trust", x.trust(f, false), 0);
            due("1 greatest trust", x.trust(f, true), 100);
        }
        for (int s = 0; s < 4; s++) {
            due("1 put", x.put(s, 0, 0), Check.MISSING);
            due("1 text", x.text(s), Check.MISSING);
            due("1 proves", x.proves(s), Check.MISSING);
        }
        due("1 clearing", x.clearing(-1), 0);
        due("1 wrong", x.wrong(), -1);
        due("1 best", x.best(), 0);
        due("1 empty", x.empty(false), 0);
        due("1 empty without", x.empty(true), 0);
        due("1 lorryIs", x.lorryIs(0, 0), Check.BEYOND);
        due("1 loadIs", x.loadIs(0, 0), Check.BEYOND);
        LoadBourse y = new LoadBourse();
        due("1 a road", y.road(0, 1, 5), 0);
        due("1 is not in another object", x.far(0, 1), Check.NONE);
    }

    private static void promise2Road() {
        LoadBourse x = new LoadBourse();
        due("2 new", x.road(0, 7, 400), 0);
        due("2 longer than it was", x.road(0, 7, 1), 400);
        due("2 the other way", x.road(7, 0, 17), 1);
        due("2 no more", x.road(0, 7, 0), 17);
        due("2 was none", x.road(7, 0, 0), 0);
        due("2 far", x.far(0, 7), Check.NONE);
        due("2 to itself", x.road(3, 3, 5), Check.BEYOND);
        due("2 to itself by 0", x.road(3, 3, 0), Check.BEYOND);
        due("2 minutes above", x.road(1, 2, 401), Check.BEYOND);
        due("2 minutes below", x.road(1, 2, -1), Check.BEYOND);
        due("2 town below", x.road(-1, 2, 5), Check.BEYOND);
        due("2 town above", x.road(8, 2, 5), Check.BEYOND);
        due("2 other town below", x.road(2, -1, 5), Check.BEYOND);
        due("2 other town above", x.road(2, 8, 5), Check.BEYOND);
        for (int v : Check.EXTREMES) {
            due("2 extreme " + v, x.road(v, 1 - v, 5), Check.BEYOND);
        }
        due("2 findings change nothing", x.far(1, 2), Check.NONE);
        due("2 findings", x.all(5), 8 + Check.EXTREMES.length + 2);
    }

    private static void promise3Far() {
        LoadBourse x = new LoadBourse();
        x.road(0, 1, 100);
        x.road(1, 2, 100);
        x.road(2, 3, 100);
        x.road(0, 3, 301);
        due("3 by three roads", x.far(0, 3), 300);
        due("3 back", x.far(3, 0), 300);
        x.road(3, 0, 299);
        due("3 by one road", x.far(0, 3), 299);
        due("3 round about", x.far(1, 3), 200);
        due("3 none", x.far(0, 4), Check.NONE);
        due("3 itself", x.far(4, 4), 0);
        x.road(1, 2, 0);
        due("3 the long way", x.far(1, 2), 499);
        for (int t = 3; t < 7; t++) {
            x.road(t, t + 1, 400);
        }
        due("3 far away", x.far(7, 1), 1999);
        due("3 below", x.far(-1, 0), Check.BEYOND);
        due("3 above", x.far(0, 8), Check.BEYOND);
        due("3 other below", x.far(0, -1), Check.BEYOND);
        due("3 other above", x.far(8, 0), Check.BEYOND);
        LoadBourse line = new LoadBourse();
        for (int t = 0; t < 7; t++) {
            line.road(7 - t, 6 - t, 400);
        }
        due("3 the farthest", line.far(0, 7), 2800);
    }

    private static void promise4Lorry() {
        LoadBourse x = new LoadBourse();
        due("4 first", x.lorry(0, 0, 0, 0, 1, 1), 0);
        due("4 last of all", x.lorry(3, 7, 2000, 40007, 40, 40), 1);
        int[][] beyond = {{-1, 0, 0, 0, 1, 1}, {4, 0, 0, 0, 1, 1}, {0, -1, 0, 0, 1, 1}, {0, 8, 0, 0, 1, 1},
            {0, 0, -1, 0, 1, 1}, {0, 0, 2001, 0, 1, 1}, {0, 0, 0, -1, 1, 1}, {0, 0, 0, -10, 1, 1}, {0, 0, 0, 8, 1, 1},
            {0, 0, 0, 9, 1, 1}, {0, 0, 0, 40008, 1, 1}, {0, 0, 0, 40010, 1, 1}, {0, 0, 0, 0, 0, 1},
            {0, 0, 0, 0, 41, 1}, {0, 0, 0, 0, 1, 0}, {0, 0, 0, 0, 1, 41}};
        for (int[] a : beyond) {
            due("4 beyond " + java.util.Arrays.toString(a), x.lorry(a[0], a[1], a[2], a[3], a[4], a[5]), Check.BEYOND);
        }
        for (int v : Check.EXTREMES) {
            due("4 extreme home " + v, x.lorry(0, 0, 0, v < 0 ? v : v + 99999, 1, 1), Check.BEYOND);
        }
        due("4 none came", x.all(0), 2);
        for (int i = 2; i < 6; i++) {
            due("4 more", x.lorry(i % 4, i, 10 * i, 10 * i, i, i), i);
        }
        due("4 full", x.lorry(0, 0, 0, 0, 1, 1), Check.FULL);
        due("4 beyond ahead of full", x.lorry(0, 0, 0, 0, 1, 0), Check.BEYOND);
        due("4 six", x.all(0), 6);
    }

    private static void promise5As() {
        LoadBourse x = new LoadBourse();
        for (int kind = 0; kind < 4; kind++) {
            x.lorry(kind, 0, 0, 0, 1, 1);
        }
        for (int lorry = 0; lorry < 4; lorry++) {
            for (int kind = 0; kind < 4; kind++) {
                boolean is = kind == 0 || kind == lorry;
                due("5 " + lorry + " as " + kind, x.as(lorry, kind), is ? lorry : Check.KIND);
            }
        }
        due("5 no lorry", x.as(4, 0), Check.BEYOND);
        due("5 lorry below", x.as(-1, 0), Check.BEYOND);
        due("5 no kind", x.as(0, 4), Check.BEYOND);
        due("5 kind below", x.as(0, -1), Check.BEYOND);
    }

    private static void promise6LorryIs() {
        LoadBourse x = new LoadBourse();
        x.lorry(1, 5, 1234, 38766, 33, 22);
        int[] one = {1, 5, 1234, 6, 3876, 33, 22, 0};
        x.lorry(2, 1, 0, 7, 15, 40);
        int[] two = {2, 1, 0, 7, 0, 7, 40, 0};
        for (int what = 0; what < 8; what++) {
            due("6 first " + what, x.lorryIs(0, what), one[what]);
            due("6 second " + what, x.lorryIs(1, what), two[what]);
        }
        x.lorry(2, 0, 0, 0, 1, 1);
        due("6 half of 1", x.lorryIs(2, 5), 0);
        x.load(1, 0, 7, 1, 0);
        x.load(1, 0, 7, 1, 0);
        x.load(1, 0, 7, 1, 0);
        x.give(0, 1);
        x.give(2, 1);
        x.give(1, 0);
        due("6 given", x.lorryIs(1, 7), 5);
        due("6 given to the other one", x.lorryIs(0, 7), 2);
        due("6 given to none", x.lorryIs(2, 7), 0);
        due("6 another what", x.lorryIs(0, 8), Check.BEYOND);
        due("6 what below", x.lorryIs(0, -1), Check.BEYOND);
        due("6 no such", x.lorryIs(3, 0), Check.BEYOND);
        due("6 lorry below", x.lorryIs(-1, 0), Check.BEYOND);
        for (int v : Check.EXTREMES) {
            due("6 extreme what", x.lorryIs(0, v), Check.BEYOND);
            due("6 extreme lorry", x.lorryIs(v, 0), Check.BEYOND);
        }
    }

    private static void promise7Load() {
        LoadBourse x = new LoadBourse();
        due("7 first", x.load(76, 2, 40, 40, 9999), 0);
        due("7 least", x.load(1, 0, 1, 1, 0), 1);
        int[][] beyond = {{-1, 0, 1, 1, 0}, {8, 0, 1, 1, 0}, {9, 0, 1, 1, 0}, {80, 0, 1, 1, 0}, {78, 0, 1, 1, 0},
            {100, 0, 1, 1, 0}, {1, -1, 1, 1, 0}, {1, 3, 1, 1, 0}, {1, 0, 0, 1, 0}, {1, 0, 41, 1, 0}, {1, 0, 1, 0, 0},
            {1, 0, 1, 41, 0}, {1, 0, 1, 1, -1}, {1, 0, 1, 1, 10000}};
        for (int[] a : beyond) {
            due("7 beyond " + java.util.Arrays.toString(a), x.load(a[0], a[1], a[2], a[3], a[4]), Check.BEYOND);
        }
        for (int t = 0; t < 8; t++) {
            due("7 from is to", x.load(11 * t, 0, 1, 1, 0), Check.SIZE);
        }
        due("7 beyond ahead of size", x.load(11, 0, 1, 1, 10000), Check.BEYOND);
        for (int i = 2; i < 8; i++) {
            due("7 more", x.load(1, 0, 1, 1, 0), i);
        }
        due("7 full", x.load(1, 0, 1, 1, 0), Check.FULL);
        due("7 size ahead of full", x.load(0, 0, 1, 1, 0), Check.SIZE);
        due("7 beyond ahead of full", x.load(1, 0, 1, 41, 0), Check.BEYOND);
        due("7 eight", x.all(1), 8);
        int[] first = {7, 6, 2, 40, 40, 9999, 0, 4000, 0, 4000, -1};
        for (int what = 0; what < first.length; what++) {
            due("7 is " + what, x.loadIs(0, what), first[what]);
        }
    }

    private static void promise8Window() {
        LoadBourse x = new LoadBourse();
        x.load(1, 0, 1, 1, 0);
        x.load(12, 0, 1, 1, 0);
        due("8 fetch", x.window(1, false, 5, 6), 1);
        due("8 bring", x.window(1, true, 7, 7), 1);
        int[] windows = {5, 6, 7, 7};
        for (int i = 0; i < 4; i++) {
            due("8 is " + i, x.loadIs(1, 6 + i), windows[i]);
            due("8 the other load's " + i, x.loadIs(0, 6 + i), i % 2 * 4000);
        }
        due("8 the first minute alone", x.window(1, true, 0, 0), 1);
        due("8 the last minute alone", x.window(1, true, 4000, 4000), 1);
        due("8 all", x.window(1, true, 0, 4000), 1);
        due("8 from above to", x.window(1, true, 6, 5), Check.SIZE);
        due("8 from beyond", x.window(1, true, -1, 5), Check.BEYOND);
        due("8 from above", x.window(1, true, 4001, 5), Check.BEYOND);
        due("8 to beyond", x.window(1, true, 6, -1), Check.BEYOND);
        due("8 to above", x.window(1, true, 6, 4001), Check.BEYOND);
        due("8 no load", x.window(2, true, 6, 5), Check.BEYOND);
        due("8 load below", x.window(-1, false, 5, 6), Check.BEYOND);
        due("8 findings change nothing", x.loadIs(1, 9), 4000);
    }

    private static void promise9LoadIs() {
        LoadBourse x = new LoadBourse();
        x.lorry(1, 0, 0, 0, 40, 40);
        x.load(35, 1, 12, 13, 14);
        x.window(0, false, 15, 16);
        x.window(0, true, 17, 18);
        int[] is = {3, 5, 1, 12, 13, 14, 15, 16, 17, 18, -1};
        for (int what = 0; what < is.length; what++) {
            due("9 is " + what, x.loadIs(0, what), is[what]);
        }
        x.give(0, 0);
        due("9 given", x.loadIs(0, 10), 0);
        due("9 another what", x.loadIs(0, 11), Check.BEYOND);
        due("9 what below", x.loadIs(0, -1), Check.BEYOND);
        due("9 no load", x.loadIs(1, 0), Check.BEYOND);
        due("9 load below", x.loadIs(-1, 0), Check.BEYOND);
        for (int v : Check.EXTREMES) {
            due("9 extreme what", x.loadIs(0, v), Check.BEYOND);
            due("9 extreme load", x.loadIs(v, 0), Check.BEYOND);
        }
        due("9 -1 is no finding", x.all(5), 4 + 2 * Check.EXTREMES.length);
    }

    private static void promise10Pay() {
        LoadBourse x = new LoadBourse();
        x.load(1, 0, 1, 1, 77);
        due("10 was", x.pay(0, 9999), 77);
        due("10 was then", x.pay(0, 0), 9999);
        due("10 above", x.pay(0, 10000), Check.BEYOND);
        due("10 below", x.pay(0, -1), Check.BEYOND);
        due("10 no load", x.pay(1, 5), Check.BEYOND);
        due("10 load below", x.pay(-1, 5), Check.BEYOND);
        due("10 is", x.loadIs(0, 5), 0);
    }

    private static void promise11Give() {
        LoadBourse x = new LoadBourse();
        for (int kind = 0; kind < 4; kind++) {
            x.lorry(kind, 0, 0, 0, 20, 20);
        }
        for (int sort = 0; sort < 3; sort++) {
            x.load(1, sort, 10, 20, 0);
        }
        boolean[][] fits = {{true, true, true, false}, {false, true, false, false}, {false, false, false, true}};
        for (int sort = 0; sort < 3; sort++) {
            for (int kind = 0; kind < 4; kind++) {
                due("11 sort " + sort + " to kind " + kind, x.give(sort, kind), fits[sort][kind] ? -1 : Check.KIND);
                x.give(sort, -1);
            }
        }
        due("11 to one", x.give(0, 0), -1);
        due("11 to another one", x.give(0, 1), 0);
        due("11 a finding leaves it", x.give(0, 3), Check.KIND);
        due("11 to the same", x.give(0, 1), 1);
        due("11 to none", x.give(0, -1), 1);
        due("11 still none", x.give(0, -1), -1);
        due("11 no lorry", x.give(0, 4), Check.BEYOND);
        due("11 lorry below", x.give(0, -2), Check.BEYOND);
        due("11 no load", x.give(3, 0), Check.BEYOND);
        due("11 load below", x.give(-1, -1), Check.BEYOND);
        x.load(1, 0, 21, 1, 0);
        x.load(1, 0, 1, 21, 0);
        x.load(1, 0, 11, 1, 0);
        due("11 too much room", x.give(3, 0), Check.KIND);
        due("11 too many tons", x.give(4, 0), Check.KIND);
        due("11 a small one has half", x.give(5, 2), Check.KIND);
        due("11 just enough", x.give(0, 2), -1);
    }

    public static void main(String[] args) {
        promise1NewObject();
        promise2Road();
        promise3Far();
        promise4Lorry();
        promise5As();
        promise6LorryIs();
        promise7Load();
        promise8Window();
        promise9LoadIs();
        promise10Pay();
        promise11Give();
        CHECK.end();
    }
}
