/** The edges of promises 1 to 11, and of paragraph 1: towns, lorries, loads. */
public final class EdgesOfTownsTest {
    private static final Check CHECK = new Check("EdgesOfTownsTest");
    private static final Edge EDGE = new Edge(CHECK);

    private static final int[] TOWN = {0, 7};
    private static final int[] MINUTE = {0, 4000};
    private static final int[] HOW_MUCH = {1, 40};
    private static final int[] MONEY = {0, 9999};
    private static final int[][] LORRY_RANGES = {{0, 3}, TOWN, {0, 2000}, null, HOW_MUCH, HOW_MUCH};
    private static final int[][] LOAD_RANGES = {null, {0, 2}, HOW_MUCH, HOW_MUCH, MONEY};

    private static void due(String call, int got, int want) {
        CHECK.due(call, got, want);
    }

    private static void promise1NothingAtFirst() {
        LoadBourse x = new LoadBourse();
        for (int a = 0; a < 8; a++) {
            for (int b = 0; b < 8; b++) {
                due("1 no road " + a + " " + b, a == b ? 0 : x.road(a, b, 0), 0);
            }
        }
        for (int a = 0; a < 10; a++) {
            for (int b = 0; b < 10; b++) {
                due("1 nothing owed " + a + " " + b, a == b ? 0 : x.owe(a, b, 0), 0);
            }
        }
        LoadBourse y = new LoadBourse();
        for (int s = 0; s < 4; s++) {
            due("1 missing " + s, y.copy(s, 0, 3 - s, 0, 0), Check.MISSING);
        }
        due("1 nothing is owed, so nothing is paid", y.clear(), 0);
        due("1 the first lorry", y.lorry(0, 0, 0, 0, 1, 1), 0);
        due("1 the first load", y.load(1, 0, 1, 1, 9999), 0);
        due("1 the empty text's claim", y.claim(0, 4000, 9), 0);
        due("1 the first contract", y.contract(0, 0, 1), 0);
        due("1 the first report", y.report(0, 0, 0), 0);
        due("1 the first price", y.paid(1, 0, 0), 1);
    }

    /** Without a lorry and a load each call that names one is BEYOND. */
    private static void promise1NoLorryNoLoad() {
        Edge.Call[] calls = {x -> x.as(0, 0), x -> x.lorryIs(0, 0), x -> x.window(0, true, 0, 0), x -> x.loadIs(0, 0),
            x -> x.pay(0, 0), x -> x.give(0, -1), x -> x.give(0, 0), x -> x.why(0, -1, -1), x -> x.drive(0, -1, -1, 0),
            x -> x.gets(0, 0), x -> x.worth(0), x -> x.contract(0, 0, 1), x -> x.chain(0, 0, true), x -> x.doubles(0),
            x -> x.report(0, 0, 0), x -> x.cannot(0, false), x -> x.cannot(0, true), x -> x.claim(0, 0, 0)};
        for (int i = 0; i < calls.length; i++) {
            EDGE.refused("1 call " + i, Edge.FRESH, Check.BEYOND, calls[i]);
        }
        EDGE.asked("1 best", Edge.FRESH, 0, LoadBourse::best);
        EDGE.asked("1 empty", Edge.FRESH, 0, x -> x.empty(false));
        EDGE.asked("1 empty without", Edge.FRESH, 0, x -> x.empty(true));
    }

    private static void promise2Ends() {
        int[][] ranges = {TOWN, TOWN, {0, 400}};
        EDGE.ends("2 road", Edge.SOME, new int[] {4, 3, 5}, ranges, (x, a) -> x.road(a[0], a[1], a[2]));
        EDGE.ends("2 road of a new one", Edge.FRESH, new int[] {4, 3, 5}, ranges, (x, a) -> x.road(a[0], a[1], a[2]));
        for (int town = 0; town < 8; town++) {
            int t = town;
            for (int minutes : new int[] {0, 1, 400}) {
                EDGE.refused("2 to itself " + t, Edge.SOME, Check.BEYOND, x -> x.road(t, t, minutes));
            }
        }
        EDGE.refused("2 no town to itself", Edge.SOME, Check.BEYOND, x -> x.road(8, 8, 5));
        EDGE.taken("2 the shortest", Edge.SOME, 0, x -> x.road(4, 7, 1), 1, x -> x.far(7, 4));
        EDGE.taken("2 the longest", Edge.SOME, 0, x -> x.road(7, 4, 400), 400, x -> x.far(4, 7));
        EDGE.taken("2 no more", Edge.SOME, 10, x -> x.road(6, 5, 0), Check.NONE, x -> x.far(5, 6));
        EDGE.taken("2 as it was", Edge.SOME, 10, x -> x.road(5, 6, 10), 10, x -> x.road(6, 5, 1));
        EDGE.taken("2 none as before", Edge.SOME, 0, x -> x.road(4, 5, 0), 0, x -> x.road(5, 4, 1));
    }

    private static void promise2EachPair() {
        LoadBourse x = new LoadBourse();
        for (int a = 0; a < 8; a++) {
            for (int b = a + 1; b < 8; b++) {
                due("2 new " + a + " " + b, x.road(b, a, 1 + 10 * a + b), 0);
            }
        }
        for (int a = 0; a < 8; a++) {
            for (int b = a + 1; b < 8; b++) {
                due("2 was " + a + " " + b, x.road(a, b, 300), 1 + 10 * a + b);
                due("2 and back " + a + " " + b, x.road(b, a, 300), 300);
            }
        }
    }

    /** All towns are joined. */
    private static LoadBourse ring(int minutes) {
        LoadBourse x = new LoadBourse();
        for (int town = 0; town < 8; town++) {
            x.road(town, (town + 1) % 8, minutes);
        }
        return x;
    }

    private static void promise3Ends() {
        EDGE.ends("3 far", () -> ring(400), new int[] {4, 4}, new int[][] {TOWN, TOWN}, (x, a) -> x.far(a[0], a[1]));
        due("3 half round", ring(400).far(1, 5), 1600);
        due("3 the shorter way round", ring(400).far(1, 6), 1200);
        for (int v : new int[] {-1, 8, Integer.MIN_VALUE, Integer.MAX_VALUE}) {
            EDGE.refused("3 both beyond", Edge.SOME, Check.BEYOND, x -> x.far(v, v));
            EDGE.refused("3 BEYOND ahead of NONE", Edge.SOME, Check.BEYOND, x -> x.far(v, 7));
            EDGE.refused("3 BEYOND ahead of NONE, too", Edge.SOME, Check.BEYOND, x -> x.far(7, v));
        }
        for (int town = 0; town < 8; town++) {
            int t = town;
            EDGE.asked("3 itself " + t, Edge.SOME, 0, x -> x.far(t, t));
            EDGE.asked("3 itself without a road " + t, Edge.FRESH, 0, x -> x.far(t, t));
        }
        EDGE.refused("3 none", Edge.SOME, Check.NONE, x -> x.far(0, 7));
        EDGE.refused("3 none back", Edge.SOME, Check.NONE, x -> x.far(7, 0));
        EDGE.refused("3 none among others", Edge.SOME, Check.NONE, x -> x.far(3, 5));
        EDGE.asked("3 by two roads rather than one", Edge.SOME, 250, x -> x.far(0, 2));
        EDGE.asked("3 by three", Edge.SOME, 310, x -> x.far(3, 0));
    }

    /** A way over all eight towns, longer by one road than by seven, then as long, then shorter. */
    private static void promise3SevenRoads() {
        LoadBourse x = new LoadBourse();
        int[] order = {3, 6, 0, 5, 7, 1, 4, 2};
        for (int i = 0; i < 7; i++) {
            x.road(order[i], order[i + 1], 50);
        }
        due("3 seven roads", x.far(3, 2), 350);
        x.road(2, 3, 351);
        due("3 one more by one road", x.far(3, 2), 350);
        x.road(2, 3, 350);
        due("3 as much", x.far(2, 3), 350);
        x.road(2, 3, 349);
        due("3 one less", x.far(2, 3), 349);
    }

    /** How far it is is asked behind the first act, and behind an act that took the place of one that was undone. */
    private static void promise3AfterEachAct() {
        LoadBourse x = new LoadBourse();
        x.road(0, 1, 5);
        due("3 behind the first act", x.far(0, 1), 5);
        x.undo();
        x.road(0, 1, 7);
        due("3 behind another act", x.far(0, 1), 7);
        x.undo();
        x.road(2, 3, 8);
        due("3 behind a third one", x.far(0, 1), Check.NONE);
        due("3 that is there", x.far(3, 2), 8);
        x.undo();
        due("3 and undone", x.far(3, 2), Check.NONE);
    }

    private static Edge.Calls lorry() {
        return (x, a) -> x.lorry(a[0], a[1], a[2], a[3], a[4], a[5]);
    }

    private static void promise4Ends() {
        int[] usual = {0, 1, 100, 20003, 10, 10};
        EDGE.ends("4 lorry", Edge.SOME, usual, LORRY_RANGES, lorry());
        for (int homeBy : new int[] {0, 7, 10, 17, 39997, 40000, 40007}) {
            EDGE.taken("4 home by " + homeBy, Edge.SOME, 4, x -> x.lorry(0, 0, 0, homeBy, 1, 1), homeBy,
                x -> 10 * x.lorryIs(4, 4) + x.lorryIs(4, 3));
        }
        for (int homeBy : new int[] {-1, -3, -7, -10, -40000, 8, 9, 18, 19, 39998, 39999, 40008, 40009, 40010, 40017,
            Integer.MIN_VALUE, Integer.MIN_VALUE + 8, Integer.MAX_VALUE, Integer.MAX_VALUE - 7}) {
            EDGE.refused("4 home by " + homeBy, Edge.SOME, Check.BEYOND, x -> x.lorry(0, 0, 0, homeBy, 1, 1));
        }
        int[][] both = {{0, 0, 0, 0, 1, 1}, {3, 7, 2000, 40007, 40, 40}};
        for (int[] a : both) {
            for (int what = 0; what < 7; what++) {
                int w = what;
                int want = new int[] {a[0], a[1], a[2], a[3] % 10, a[3] / 10, a[4], a[5]}[w];
                EDGE.taken("4 at the ends, " + w, Edge.SOME, 4, x -> lorry().on(x, a), want, x -> x.lorryIs(4, w));
            }
        }
    }

    private static void promise4Full() {
        int[] usual = {0, 1, 100, 20003, 10, 10};
        EDGE.beyondFirst("4 full", Edge.FULL, usual, LORRY_RANGES, Check.FULL, lorry());
        for (int homeBy : new int[] {-1, 8, 40010}) {
            EDGE.refused("4 BEYOND first, home by " + homeBy, Edge.FULL, Check.BEYOND,
                x -> x.lorry(0, 0, 0, homeBy, 1, 1));
        }
        LoadBourse x = new LoadBourse();
        for (int i = 0; i < 6; i++) {
            due("4 the number", lorry().on(x, usual), i);
        }
        due("4 the seventh", lorry().on(x, usual), Check.FULL);
        due("4 six", x.all(0), 6);
        due("4 the last one is no more", x.undo(), 5);
        due("4 so there is place for one", lorry().on(x, usual), 5);
        due("4 and not for two", lorry().on(x, usual), Check.FULL);
    }

    /** SMALL ones have half of their ROOM, cut; all others have all of it. */
    private static void paragraph1Rooms() {
        for (int kind = 0; kind < 4; kind++) {
            for (int room : new int[] {1, 2, 3, 38, 39, 40}) {
                LoadBourse x = new LoadBourse();
                x.lorry(kind, 0, 0, 0, room, 7);
                due("6 room " + room + " of kind " + kind, x.lorryIs(0, 5), kind == 2 ? room / 2 : room);
                due("6 limit of kind " + kind, x.lorryIs(0, 6), 7);
            }
        }
        LoadBourse x = new LoadBourse();
        x.lorry(2, 0, 0, 0, 1, 1);
        x.load(1, 0, 1, 1, 1);
        due("1 no load fits a room of 0", x.give(0, 0), Check.KIND);
        due("1 nor is it driven", x.why(0, 0, -1), Check.KIND);
    }

    private static void promise5Kinds() {
        EDGE.ends("5 as", Edge.SOME, new int[] {3, 0}, new int[][] {{0, 3}, null}, (x, a) -> x.as(a[0], a[1]));
        EDGE.ends("5 as of a full one", Edge.FULL, new int[] {5, 0}, new int[][] {{0, 5}, null},
            (x, a) -> x.as(a[0], a[1]));
        for (int lorry = 0; lorry < 4; lorry++) {
            int l = lorry;
            for (int kind : new int[] {-1, 4, Integer.MIN_VALUE, Integer.MAX_VALUE}) {
                EDGE.refused("5 no kind " + kind, Edge.SOME, Check.BEYOND, x -> x.as(l, kind));
            }
            for (int kind = 0; kind < 4; kind++) {
                int k = kind;
                if (k == 0 || k == l) {
                    EDGE.asked("5 " + l + " as " + k, Edge.SOME, l, x -> x.as(l, k));
                } else {
                    EDGE.refused("5 " + l + " as " + k, Edge.SOME, Check.KIND, x -> x.as(l, k));
                }
            }
        }
        EDGE.refused("5 no lorry, of a kind that it could not be", Edge.SOME, Check.BEYOND, x -> x.as(4, 1));
        EDGE.refused("5 neither", Edge.SOME, Check.BEYOND, x -> x.as(4, 4));
    }

    private static void promise6Ends() {
        EDGE.ends("6 lorryIs", Edge.SOME, new int[] {1, 1}, new int[][] {{0, 3}, {0, 7}},
            (x, a) -> x.lorryIs(a[0], a[1]));
        EDGE.ends("6 lorryIs of a full one", Edge.FULL, new int[] {1, 1}, new int[][] {{0, 5}, {0, 7}},
            (x, a) -> x.lorryIs(a[0], a[1]));
        int[] second = {1, 2, 60, 2, 900, 30, 10, 0};
        for (int what = 0; what < 8; what++) {
            int w = what;
            EDGE.asked("6 what " + w, Edge.SOME, second[w], x -> x.lorryIs(1, w));
        }
        EDGE.asked("6 given by hand", Edge.SOME, 2, x -> x.lorryIs(2, 7));
        LoadBourse x = new LoadBourse();
        x.lorry(0, 0, 0, 0, 1, 1);
        int bits = 0;
        for (int load = 0; load < 8; load++) {
            x.load(1, 0, 1, 1, 0);
            x.give(load, 0);
            bits = 2 * bits + 1;
            due("6 loads up to " + load, x.lorryIs(0, 7), bits);
        }
        x.give(7, -1);
        due("6 all but the last", x.lorryIs(0, 7), 127);
        x.give(0, -1);
        due("6 nor the first", x.lorryIs(0, 7), 126);
    }

    private static Edge.Calls load() {
        return (x, a) -> x.load(a[0], a[1], a[2], a[3], a[4]);
    }

    private static void promise7Ends() {
        EDGE.ends("7 load", Edge.SOME, new int[] {34, 0, 5, 5, 50}, LOAD_RANGES, load());
        for (int way : new int[] {1, 7, 10, 12, 67, 70, 76}) {
            EDGE.taken("7 way " + way, Edge.SOME, 6, x -> x.load(way, 0, 1, 1, 0), way,
                x -> 10 * x.loadIs(6, 0) + x.loadIs(6, 1));
        }
        for (int way : new int[] {-1, -10, -12, 8, 9, 18, 19, 78, 79, 80, 81, 88, 90, 99, 100, 101, 110, 701, 1000,
            Integer.MIN_VALUE, Integer.MAX_VALUE}) {
            EDGE.refused("7 way " + way, Edge.SOME, Check.BEYOND, x -> x.load(way, 0, 1, 1, 0));
        }
        int[][] both = {{1, 0, 1, 1, 0}, {76, 2, 40, 40, 9999}};
        for (int[] a : both) {
            int[] want = {a[0] / 10, a[0] % 10, a[1], a[2], a[3], a[4], 0, 4000, 0, 4000, -1};
            for (int what = 0; what < want.length; what++) {
                int w = what;
                EDGE.taken("7 at the ends, " + w, Edge.SOME, 6, x -> load().on(x, a), want[w], x -> x.loadIs(6, w));
            }
        }
    }

    private static void promise7SizeAndFull() {
        for (int town = 0; town < 8; town++) {
            int t = town;
            EDGE.refused("7 from is to, " + t, Edge.SOME, Check.SIZE, x -> x.load(11 * t, 0, 1, 1, 0));
            EDGE.refused("7 SIZE ahead of FULL, " + t, Edge.FULL, Check.SIZE, x -> x.load(11 * t, 0, 1, 1, 0));
        }
        EDGE.beyondFirst("7 size", Edge.SOME, new int[] {33, 0, 5, 5, 50}, LOAD_RANGES, Check.SIZE, load());
        EDGE.beyondFirst("7 size of a full one", Edge.FULL, new int[] {33, 0, 5, 5, 50}, LOAD_RANGES, Check.SIZE,
            load());
        EDGE.beyondFirst("7 full", Edge.FULL, new int[] {34, 0, 5, 5, 50}, LOAD_RANGES, Check.FULL, load());
        for (int way : new int[] {-1, 8, 80, 88}) {
            EDGE.refused("7 BEYOND first, way " + way, Edge.FULL, Check.BEYOND, x -> x.load(way, 0, 1, 1, 0));
        }
        LoadBourse x = new LoadBourse();
        for (int i = 0; i < 8; i++) {
            due("7 the number", x.load(1, 0, 1, 1, 0), i);
        }
        due("7 the ninth", x.load(1, 0, 1, 1, 0), Check.FULL);
        due("7 eight", x.all(1), 8);
        due("7 the last one is no more", x.undo(), 7);
        due("7 so there is place for one", x.load(1, 0, 1, 1, 0), 7);
        due("7 and not for two", x.load(1, 0, 1, 1, 0), Check.FULL);
    }

    private static void promise8Ends() {
        for (boolean way : new boolean[] {false, true}) {
            boolean bring = way;
            int first = bring ? 8 : 6;
            String name = bring ? "8 bring" : "8 fetch";
            Edge.Calls window = (x, a) -> x.window(a[0], bring, a[1], a[2]);
            EDGE.ends(name, Edge.SOME, new int[] {3, 0, 4000}, new int[][] {{0, 5}, MINUTE, MINUTE}, window);
            EDGE.ends(name + " of a full one", Edge.FULL, new int[] {3, 0, 4000}, new int[][] {{0, 7}, MINUTE, MINUTE},
                window);
            for (int minute : new int[] {0, 1, 2000, 3999, 4000}) {
                EDGE.taken(name + " one minute alone", Edge.SOME, 1, x -> x.window(5, bring, minute, minute),
                    2 * minute, x -> x.loadIs(5, first) + x.loadIs(5, first + 1));
            }
            EDGE.taken(name + " the whole", Edge.SOME, 1, x -> x.window(0, bring, 0, 4000), 4000,
                x -> x.loadIs(0, first + 1) - x.loadIs(0, first));
            EDGE.taken(name + " leaves the other one", Edge.SOME, 1, x -> x.window(4, bring, 1, 3999), 4000,
                x -> x.loadIs(4, 14 - first) + x.loadIs(4, 15 - first));
            for (int to : new int[] {0, 1, 3998, 3999}) {
                EDGE.refused(name + " from is above to by one", Edge.SOME, Check.SIZE,
                    x -> x.window(0, bring, to + 1, to));
            }
            EDGE.refused(name + " from is far above to", Edge.SOME, Check.SIZE, x -> x.window(0, bring, 4000, 0));
            EDGE.beyondFirst(name + " BEYOND ahead of SIZE", Edge.SOME, new int[] {2, 4000, 0},
                new int[][] {{0, 5}, null, null}, Check.SIZE, window);
            int[][] both = {{4001, 0}, {4001, 4000}, {0, -1}, {4000, -1}, {4001, -1}, {-1, -2}};
            for (int[] b : both) {
                EDGE.refused(name + " BEYOND ahead of SIZE " + b[0] + " " + b[1], Edge.SOME, Check.BEYOND,
                    x -> x.window(0, bring, b[0], b[1]));
            }
        }
    }

    private static void promise9Ends() {
        EDGE.ends("9 loadIs", Edge.SOME, new int[] {1, 1}, new int[][] {{0, 5}, {0, 10}},
            (x, a) -> x.loadIs(a[0], a[1]));
        EDGE.ends("9 loadIs of a full one", Edge.FULL, new int[] {1, 1}, new int[][] {{0, 7}, {0, 10}},
            (x, a) -> x.loadIs(a[0], a[1]));
        int[] first = {0, 1, 0, 10, 10, 510, 100, 130, 50, 3000, -1};
        for (int what = 0; what < 11; what++) {
            int w = what;
            EDGE.asked("9 what " + w, Edge.SOME, first[w], x -> x.loadIs(0, w));
        }
        EDGE.asked("9 given by hand", Edge.SOME, 2, x -> x.loadIs(1, 10));
    }

    private static void promise10Ends() {
        EDGE.ends("10 pay", Edge.SOME, new int[] {2, 77}, new int[][] {{0, 5}, MONEY}, (x, a) -> x.pay(a[0], a[1]));
        EDGE.ends("10 pay of a full one", Edge.FULL, new int[] {2, 77}, new int[][] {{0, 7}, MONEY},
            (x, a) -> x.pay(a[0], a[1]));
        EDGE.taken("10 nothing", Edge.SOME, 510, x -> x.pay(0, 0), 0, x -> x.loadIs(0, 5));
        EDGE.taken("10 the most", Edge.SOME, 510, x -> x.pay(0, 9999), 9999, x -> x.loadIs(0, 5));
        EDGE.taken("10 as it was", Edge.SOME, 510, x -> x.pay(0, 510), 510, x -> x.loadIs(0, 5));
        EDGE.refused("10 neither", Edge.SOME, Check.BEYOND, x -> x.pay(6, 10000));
    }

    private static void promise11Ends() {
        EDGE.ends("11 give", Edge.SOME, new int[] {0, -1}, new int[][] {{0, 5}, null}, (x, a) -> x.give(a[0], a[1]));
        EDGE.ends("11 give of a full one", Edge.FULL, new int[] {0, -1}, new int[][] {{0, 7}, null},
            (x, a) -> x.give(a[0], a[1]));
        for (int lorry : new int[] {-2, 4, Integer.MIN_VALUE, Integer.MAX_VALUE}) {
            EDGE.refused("11 no lorry " + lorry, Edge.SOME, Check.BEYOND, x -> x.give(0, lorry));
            EDGE.refused("11 nor a load", Edge.SOME, Check.BEYOND, x -> x.give(6, lorry));
        }
        EDGE.refused("11 no lorry of a full one", Edge.FULL, Check.BEYOND, x -> x.give(0, 6));
        EDGE.taken("11 the first lorry", Edge.SOME, -1, x -> x.give(0, 0), 0, x -> x.loadIs(0, 10));
        EDGE.taken("11 the last lorry", Edge.SOME, -1, x -> x.give(3, 3), 3, x -> x.loadIs(3, 10));
        EDGE.taken("11 to none", Edge.SOME, 2, x -> x.give(1, -1), -1, x -> x.loadIs(1, 10));
        EDGE.taken("11 none to none", Edge.SOME, -1, x -> x.give(0, -1), -1, x -> x.loadIs(0, 10));
        EDGE.taken("11 to the same one", Edge.SOME, 2, x -> x.give(1, 2), 2, x -> x.loadIs(1, 10));
        EDGE.taken("11 to another one", Edge.SOME, 2, x -> x.give(1, 0), 1 << 1, x -> x.lorryIs(0, 7));
        EDGE.refused("11 does not fit", Edge.SOME, Check.KIND, x -> x.give(2, 0));
        EDGE.refused("11 does not fit, and stays where it is", Edge.SOME, Check.KIND, x -> x.give(1, 3));
        EDGE.refused("11 BEYOND ahead of KIND", Edge.SOME, Check.BEYOND, x -> x.give(-1, 3));
    }

    /** Room, limit and kind, each just enough and one short. */
    private static void paragraph1Fits() {
        int[][] fits = {{0, 0, 7, 9, -1}, {0, 0, 8, 9, Check.KIND}, {0, 0, 7, 10, Check.KIND}, {0, 0, 1, 1, -1},
            {1, 1, 7, 9, -1}, {1, 1, 8, 9, Check.KIND}, {1, 1, 7, 10, Check.KIND},
            {2, 0, 3, 9, -1}, {2, 0, 4, 9, Check.KIND}, {2, 0, 3, 10, Check.KIND},
            {3, 2, 7, 9, -1}, {3, 2, 8, 9, Check.KIND}, {3, 2, 7, 10, Check.KIND}};
        for (int[] f : fits) {
            LoadBourse x = new LoadBourse();
            x.lorry(f[0], 0, 0, 40000, 7, 9);
            x.load(1, f[1], f[2], f[3], 5);
            due("1 fits " + java.util.Arrays.toString(f), x.give(0, 0), f[4]);
            due("1 is given " + java.util.Arrays.toString(f), x.loadIs(0, 10), f[4] == -1 ? 0 : -1);
            due("1 can be driven " + java.util.Arrays.toString(f), x.why(0, 0, -1), f[4] == -1 ? 1 : Check.KIND);
        }
        boolean[][] takes = {{true, false, false}, {true, true, false}, {true, false, false}, {false, false, true}};
        for (int kind = 0; kind < 4; kind++) {
            for (int sort = 0; sort < 3; sort++) {
                LoadBourse x = new LoadBourse();
                x.lorry(kind, 0, 0, 40000, 40, 40);
                x.load(1, sort, 20, 40, 5);
                due("1 kind " + kind + " takes sort " + sort, x.give(0, 0), takes[kind][sort] ? -1 : Check.KIND);
                due("1 to none, " + kind + " " + sort, x.give(0, -1), takes[kind][sort] ? 0 : -1);
            }
        }
    }

    public static void main(String[] args) {
        promise1NothingAtFirst();
        promise1NoLorryNoLoad();
        promise2Ends();
        promise2EachPair();
        promise3Ends();
        promise3SevenRoads();
        promise3AfterEachAct();
        promise4Ends();
        promise4Full();
        paragraph1Rooms();
        promise5Kinds();
        promise6Ends();
        promise7Ends();
        promise7SizeAndFull();
        promise8Ends();
        promise9Ends();
        promise10Ends();
        promise11Ends();
        paragraph1Fits();
        CHECK.end();
    }
}
