/** The edges of promises 12 to 17, and of paragraph 2: drives, and the giving. */
public final class EdgesOfDrivesTest {
    private static final Check CHECK = new Check("EdgesOfDrivesTest");
    private static final Edge EDGE = new Edge(CHECK);
    private static final int[] EXTREMES = {Integer.MIN_VALUE, Integer.MAX_VALUE};

    private static void due(String call, int got, int want) {
        CHECK.due(call, got, want);
    }

    private static Edge.Calls why() {
        return (x, a) -> x.why(a[0], a[1], a[2]);
    }

    private static void promise12Ends() {
        int[][] lorries = {{0, 3}, null, null};
        int[][] loads = {null, {-1, 5}, null};
        int[][] seconds = {null, null, {-1, 5}};
        EDGE.ends("12 lorry", Edge.SOME, new int[] {0, -1, -1}, lorries, why());
        EDGE.ends("12 first load", Edge.SOME, new int[] {0, 0, -1}, loads, why());
        EDGE.ends("12 second load", Edge.SOME, new int[] {0, 0, -1}, seconds, why());
        EDGE.ends("12 lorry of a full one", Edge.FULL, new int[] {0, -1, -1}, new int[][] {{0, 5}, null, null}, why());
        EDGE.refused("12 first of a full one", Edge.FULL, Check.BEYOND, x -> x.why(0, 8, -1));
        EDGE.refused("12 second of a full one", Edge.FULL, Check.BEYOND, x -> x.why(0, 0, 8));
        for (int load = 0; load < 6; load++) {
            int l = load;
            EDGE.refused("12 they are one, " + l, Edge.SOME, Check.BEYOND, x -> x.why(0, l, l));
            EDGE.refused("12 none ahead of one, " + l, Edge.SOME, Check.BEYOND, x -> x.why(0, -1, l));
        }
        EDGE.asked("12 none at all are not one load", Edge.SOME, 0, x -> x.why(0, -1, -1));
    }

    /** Lorry 0 of SOME fits loads 0, 1, 4 and 5, and neither 2 nor 3. */
    private static void promise12Kind() {
        int[][] misfits = {{0, 2, -1}, {0, 3, -1}, {0, 2, 0}, {0, 0, 2}, {0, 2, 3}, {3, 0, 3}, {3, 3, 0}, {2, 0, 5},
            {1, 5, 0}};
        for (int[] m : misfits) {
            String name = java.util.Arrays.toString(m);
            EDGE.refused("12 KIND " + name, Edge.SOME, Check.KIND, x -> x.why(m[0], m[1], m[2]));
            for (int what = 0; what < 6; what++) {
                int w = what;
                EDGE.refused("13 KIND " + name, Edge.SOME, Check.KIND, x -> x.drive(m[0], m[1], m[2], w));
            }
            EDGE.refused("13 KIND ahead of what " + name, Edge.SOME, Check.KIND, x -> x.drive(m[0], m[1], m[2], 6));
            EDGE.refused("13 KIND ahead of what below " + name, Edge.SOME, Check.KIND,
                x -> x.drive(m[0], m[1], m[2], -1));
        }
        int[][] beyond = {{0, 2, 6}, {0, 2, -2}, {0, 6, 2}, {0, -2, 2}, {0, 2, 2}, {0, -1, 2}, {4, 2, -1}, {-1, 2, 3},
            {4, 2, 2}};
        for (int[] b : beyond) {
            String name = java.util.Arrays.toString(b);
            EDGE.refused("12 BEYOND ahead of KIND " + name, Edge.SOME, Check.BEYOND, x -> x.why(b[0], b[1], b[2]));
            EDGE.refused("13 BEYOND ahead of KIND " + name, Edge.SOME, Check.BEYOND, x -> x.drive(b[0], b[1], b[2], 0));
        }
    }

    private static Edge.Calls drive() {
        return (x, a) -> x.drive(a[0], a[1], a[2], a[3]);
    }

    private static void promise13Ends() {
        EDGE.ends("13 lorry", Edge.SOME, new int[] {0, -1, -1, 0}, new int[][] {{0, 3}, null, null, null}, drive());
        EDGE.ends("13 first load", Edge.SOME, new int[] {0, 0, -1, 0}, new int[][] {null, {-1, 5}, null, null},
            drive());
        EDGE.ends("13 second load", Edge.SOME, new int[] {0, 0, -1, 0}, new int[][] {null, null, {-1, 5}, null},
            drive());
        EDGE.ends("13 what", Edge.SOME, new int[] {0, 0, 5, 0}, new int[][] {null, null, null, {0, 5}}, drive());
        EDGE.refused("13 they are one", Edge.SOME, Check.BEYOND, x -> x.drive(0, 5, 5, 0));
        EDGE.refused("13 none ahead of one", Edge.SOME, Check.BEYOND, x -> x.drive(0, -1, 5, 0));
        // Load 4 goes to a town that can't be come to.
        for (int what = 0; what < 6; what++) {
            int w = what;
            EDGE.refused("13 NONE " + w, Edge.SOME, Check.NONE, x -> x.drive(0, 4, -1, w));
        }
        for (int what : new int[] {-1, 6, Integer.MIN_VALUE, Integer.MAX_VALUE}) {
            EDGE.refused("13 BEYOND ahead of NONE " + what, Edge.SOME, Check.BEYOND, x -> x.drive(0, 4, -1, what));
        }
        // 0 from minute 0: waits until 100; 1 at 230; 2 at 410 and a rest by the way back; home.
        int[] both = {100 + 30 + 100 + 30 + 150 + 30 + 20 + 45 + 130 + 30 + 100, 500, 250, 1, 510 + 700 - 250, 100};
        for (int what = 0; what < 6; what++) {
            int w = what;
            EDGE.asked("13 two loads, what " + w, Edge.SOME, both[w], x -> x.drive(0, 0, 5, w));
        }
        EDGE.asked("12 two loads", Edge.SOME, 0, x -> x.why(0, 0, 5));
        EDGE.asked("12 the other way round is behind the window", Edge.SOME, 3, x -> x.why(0, 5, 0));
        EDGE.asked("12 can't be come to", Edge.SOME, 1, x -> x.why(0, 4, -1));
        EDGE.asked("12 behind the window", Edge.SOME, 3, x -> x.why(1, 0, -1));
    }

    /** A lorry in town 0 from a minute on, with so many minutes to town 1, which is its home by a minute. */
    private static LoadBourse oneWay(int minutes, int minute, int by) {
        LoadBourse x = new LoadBourse();
        x.road(0, 2, minutes / 2);
        x.road(2, 1, minutes - minutes / 2);
        x.lorry(0, 0, minute, 10 * by + 1, 40, 40);
        return x;
    }

    /** No driver drives more than 270 minutes from a rest to the next one, nor more than 540 in all. */
    private static void paragraph2OneWay() {
        int[][] ways = {{2, 0, 2}, {269, 0, 269}, {270, 0, 270}, {271, 1, 316}, {272, 1, 317}, {539, 1, 584},
            {540, 1, 585}};
        for (int[] w : ways) {
            LoadBourse x = oneWay(w[0], 0, 4000);
            due("2 right " + w[0], x.why(0, -1, -1), 0);
            due("2 rests of " + w[0], x.drive(0, -1, -1, 3), w[1]);
            due("2 home after " + w[0], x.drive(0, -1, -1, 0), w[2]);
            due("2 driven " + w[0], x.drive(0, -1, -1, 1), w[0]);
            due("2 empty " + w[0], x.drive(0, -1, -1, 2), w[0]);
            due("2 value of " + w[0], x.drive(0, -1, -1, 4), -w[0]);
            due("2 not waited " + w[0], x.drive(0, -1, -1, 5), 0);
            due("2 in the last minute " + w[0], oneWay(w[0], 7, w[2] + 7).why(0, -1, -1), 0);
            due("2 a minute too late " + w[0], oneWay(w[0], 7, w[2] + 6).why(0, -1, -1), 4);
        }
        for (int minutes : new int[] {541, 542, 800}) {
            due("2 more than 540", oneWay(minutes, 0, 4000).why(0, -1, -1), 2);
            due("2 ahead of home too late", oneWay(minutes, 0, 0).why(0, -1, -1), 2);
        }
    }

    private static void paragraph2AtHome() {
        int[][] minutes = {{0, 0, 0}, {1, 0, 4}, {2000, 2000, 0}, {2000, 1999, 4}, {2000, 4000, 0}, {2000, 0, 4}};
        for (int[] m : minutes) {
            LoadBourse x = new LoadBourse();
            x.lorry(0, 7, m[0], 10 * m[1] + 7, 1, 1);
            String name = " from " + m[0] + " by " + m[1];
            due("2 at home" + name, x.why(0, -1, -1), m[2]);
            due("2 is there at once" + name, x.drive(0, -1, -1, 0), m[2] == 0 ? m[0] : Check.NONE);
            due("2 is worth nothing" + name, x.best(), 0);
            due("2 is a giving that may be" + name, x.sheet(0, 8, 1) + x.proves(0), 1 - 1);
        }
    }

    /** What it drove ahead of a dock counts: 200 and 70 are 270. */
    private static void paragraph2RestsOverDocks() {
        int[][] ways = {{200, 69, 0}, {200, 70, 0}, {200, 71, 1}, {270, 1, 1}, {270, 270, 1}, {269, 271, 1},
            {1, 269, 0}, {1, 270, 1}};
        for (int[] w : ways) {
            LoadBourse x = new LoadBourse();
            x.road(0, 1, w[0]);
            x.road(1, 2, w[1]);
            x.lorry(0, 0, 0, 40002, 1, 1);
            x.load(1, 0, 1, 1, 1000);
            String name = " of " + w[0] + " and " + w[1];
            due("2 rests" + name, x.drive(0, 0, -1, 3), w[2]);
            due("2 home" + name, x.drive(0, 0, -1, 0), w[0] + w[1] + 60 + 45 * w[2]);
            due("2 empty" + name, x.drive(0, 0, -1, 2), w[1]);
            due("2 driven" + name, x.drive(0, 0, -1, 1), w[0] + w[1]);
            due("2 value" + name, x.drive(0, 0, -1, 4), 1000 - w[1]);
        }
        LoadBourse x = new LoadBourse();
        x.road(0, 1, 270);
        x.lorry(0, 0, 0, 40001, 1, 1);
        x.load(1, 0, 1, 1, 1000);
        due("2 270 and home already", x.drive(0, 0, -1, 3), 0);
        due("2 home at once", x.drive(0, 0, -1, 0), 330);
    }

    /** More than 540 is asked ahead of each way, with the whole of it, and so ahead of the dock at its end. */
    private static void paragraph2TooMuch() {
        int[] short60 = {60, 60, 60, 60, 60};
        for (int way = 1; way < 4; way++) {
            LoadBourse x = new LoadBourse();
            rowOfTowns(x, short60, way, 540 - 60 * way);
            x.window(way / 2, way % 2 == 1, 0, 0);
            due("2 way " + way + " makes 540, and comes to the dock", x.why(0, 0, 1), 3);
            LoadBourse y = new LoadBourse();
            rowOfTowns(y, short60, way, 541 - 60 * way);
            y.window(way / 2, way % 2 == 1, 0, 0);
            due("2 way " + way + " makes 541, and does not", y.why(0, 0, 1), 2);
        }
        LoadBourse x = new LoadBourse();
        rowOfTowns(x, short60, 4, 540 - 240);
        due("2 the way home makes 540", x.why(0, 0, 1), 0);
        due("2 all of it is driven", x.drive(0, 0, 1, 1), 540);
        due("2 with one rest", x.drive(0, 0, 1, 3), 1);
        LoadBourse y = new LoadBourse();
        rowOfTowns(y, short60, 4, 541 - 240);
        due("2 the way home makes 541", y.why(0, 0, 1), 2);
        LoadBourse z = new LoadBourse();
        rowOfTowns(z, short60, 0, 541);
        z.window(0, false, 0, 0);
        due("2 the first way makes 541", z.why(0, 0, -1), 2);
    }

    /** Towns 0 to 5 in a row, one of the ways being so long over towns 6 and 7; loads 0 from 1 to 2, 1 from 3 to 4. */
    private static void rowOfTowns(LoadBourse x, int[] minutes, int longWay, int length) {
        for (int i = 0; i < 5; i++) {
            if (i == longWay) {
                x.road(i, 6, length / 2);
                x.road(6, i + 1, length - length / 2);
            } else {
                x.road(i, i + 1, minutes[i]);
            }
        }
        x.lorry(0, 0, 0, 40005, 1, 1);
        x.load(12, 0, 1, 1, 0);
        x.load(34, 0, 1, 1, 0);
    }

    /** At each of the four docks: the first minute of the window, the last one, and those beside them. */
    private static void paragraph2Windows() {
        int[] comes = {60, 60 + 30 + 60, 150 + 30 + 60, 240 + 30 + 60};
        int home = 330 + 30 + 60 + 45;
        for (int dock = 0; dock < 4; dock++) {
            int load = dock / 2;
            boolean bring = dock % 2 == 1;
            LoadBourse x = new LoadBourse();
            rowOfTowns(x, new int[] {60, 60, 60, 60, 60}, -1, 0);
            due("2 home", x.drive(0, 0, 1, 0), home);
            x.window(load, bring, comes[dock], comes[dock]);
            due("2 just in time at dock " + dock, x.why(0, 0, 1), 0);
            due("2 does not wait at dock " + dock, x.drive(0, 0, 1, 5), 0);
            x.window(load, bring, 0, comes[dock]);
            due("2 in the last minute at dock " + dock, x.drive(0, 0, 1, 0), home);
            x.window(load, bring, 0, comes[dock] - 1);
            due("2 a minute behind at dock " + dock, x.why(0, 0, 1), 3);
            x.window(load, bring, comes[dock] + 1, 4000);
            due("2 a minute early at dock " + dock, x.drive(0, 0, 1, 5), 1);
            due("2 is home a minute later, dock " + dock, x.drive(0, 0, 1, 0), home + 1);
            x.window(load, bring, comes[dock] + 1, comes[dock] + 1);
            due("2 a window of one minute at dock " + dock, x.why(0, 0, 1), 0);
        }
    }

    /** Who waits 44 minutes at a dock rests later, who waits 45 does not. */
    private static void paragraph2Waits() {
        int[] comes = {60, 150, 240, 330};
        for (int dock = 0; dock < 4; dock++) {
            LoadBourse x = new LoadBourse();
            rowOfTowns(x, new int[] {60, 60, 60, 60, 60}, -1, 0);
            for (int waits : new int[] {44, 45, 46}) {
                x.window(dock / 2, dock % 2 == 1, comes[dock] + waits, 4000);
                String name = " at dock " + dock + ", " + waits;
                due("2 rests" + name, x.drive(0, 0, 1, 3), waits < 45 ? 1 : 0);
                due("2 waited" + name, x.drive(0, 0, 1, 5), waits);
                due("2 home" + name, x.drive(0, 0, 1, 0), 420 + waits + (waits < 45 ? 45 : 0));
                due("2 driven" + name, x.drive(0, 0, 1, 1), 300);
                due("2 empty" + name, x.drive(0, 0, 1, 2), 180);
            }
            x.window(dock / 2, dock % 2 == 1, 0, 4000);
        }
        LoadBourse x = new LoadBourse();
        rowOfTowns(x, new int[] {60, 60, 60, 60, 60}, -1, 0);
        x.window(0, false, 60 + 44, 4000);
        x.window(0, true, 150 + 88, 4000);
        due("2 twice 44 are no rest", x.drive(0, 0, 1, 3), 1);
        due("2 but are waited", x.drive(0, 0, 1, 5), 88);
    }

    /** A driver who rested by waiting may drive 270 from there, and no more. */
    private static void paragraph2RestedByWaiting() {
        for (int more = 0; more < 2; more++) {
            LoadBourse x = new LoadBourse();
            x.road(0, 1, 200);
            x.road(1, 2, 270 + more);
            x.lorry(0, 0, 0, 40002, 1, 1);
            x.load(12, 0, 1, 1, 0);
            x.window(0, false, 245, 4000);
            due("2 rested by waiting, then " + (270 + more), x.drive(0, 0, -1, 3), more);
            due("2 brought", x.drive(0, 0, -1, 0), 245 + 30 + 270 + more + 45 * more + 30);
        }
    }

    /** The least that holds of the first place at which one does. */
    private static void paragraph2FirstPlace() {
        LoadBourse x = new LoadBourse();
        x.road(0, 1, 100);
        x.road(1, 2, 300);
        x.road(2, 3, 300);
        x.lorry(0, 0, 0, 0, 9, 9);
        x.load(10, 0, 1, 1, 0);
        x.load(17, 0, 1, 1, 0);
        x.load(71, 0, 1, 1, 0);
        x.load(13, 0, 1, 1, 0);
        x.load(12, 0, 1, 1, 0);
        due("2 home too late", x.why(0, 0, -1), 4);
        x.window(0, true, 0, 229);
        due("2 3 ahead of 4", x.why(0, 0, -1), 3);
        due("2 3 of the first load ahead of 1 of the second", x.why(0, 0, 1), 3);
        x.window(0, true, 0, 230);
        due("2 1 of the second load", x.why(0, 0, 1), 1);
        due("2 1 at the first place", x.why(0, 2, 0), 1);
        due("2 1 behind a dock", x.why(0, 1, 0), 1);
        x.window(1, false, 0, 99);
        due("2 3 at a dock ahead of 1 behind it", x.why(0, 1, 0), 3);
        due("2 2 ahead of the way", x.why(0, 3, -1), 2);
        x.window(3, true, 0, 0);
        due("2 2 ahead of 3", x.why(0, 3, -1), 2);
        x.window(3, false, 0, 99);
        due("2 3 at the place ahead", x.why(0, 3, -1), 3);
        x.window(4, true, 0, 474);
        due("2 400 may be driven", x.why(0, 4, -1), 3);
        x.window(4, true, 0, 475);
        due("2 and then not home", x.why(0, 4, -1), 2);
        due("2 with 1 later", x.why(0, 4, 2), 1);
    }

    /** Whoever fetches in minute 4000 can't bring, and who is home by 4000 is not too late. */
    private static void paragraph2LastMinutes() {
        LoadBourse x = new LoadBourse();
        x.road(0, 1, 10);
        x.lorry(0, 0, 2000, 40001, 1, 1);
        x.load(1, 0, 1, 1, 9999);
        x.window(0, false, 4000, 4000);
        due("2 fetched in the last minute", x.why(0, 0, -1), 3);
        x.window(0, false, 3930, 4000);
        due("2 home in the last minute", x.drive(0, 0, -1, 0), 4000);
        due("2 waited until then", x.drive(0, 0, -1, 5), 1930);
        due("2 is given", x.best(), 9999);
        x.window(0, false, 3931, 4000);
        due("2 a minute later", x.why(0, 0, -1), 4);
        due("2 is not given", x.best(), -10);
        x.window(0, false, 3960, 4000);
        due("2 brought in minute 4000", x.why(0, 0, -1), 4);
        x.window(0, false, 3961, 4000);
        due("2 brought in minute 4001", x.why(0, 0, -1), 3);
    }

    private static void promises14To17OfSome() {
        EDGE.asked("14 best", Edge.SOME, 960 - 100 + 750 + 749, LoadBourse::best);
        int[] gets = {0, 5, 2, -1, -1, -1, 3, -1};
        for (int i = 0; i < 8; i++) {
            int lorry = i / 2;
            int place = i % 2;
            if (gets[i] >= 0) {
                EDGE.asked("15 gets " + i, Edge.SOME, gets[i], x -> x.gets(lorry, place));
            } else {
                EDGE.refused("15 gets " + i, Edge.SOME, Check.NONE, x -> x.gets(lorry, place));
            }
        }
        EDGE.asked("16 empty", Edge.SOME, 250 + 150 + 100 + 250, x -> x.empty(false));
        EDGE.asked("16 without", Edge.SOME, 100, x -> x.empty(true));
        int[] worth = {610, 0, 750, 749, 0, 350};
        for (int load = 0; load < 6; load++) {
            int l = load;
            EDGE.asked("17 worth of " + l, Edge.SOME, worth[l], x -> x.worth(l));
        }
    }

    private static void promises15And17Ends() {
        for (int lorry : new int[] {-1, 4, Integer.MIN_VALUE, Integer.MAX_VALUE}) {
            EDGE.refused("15 no lorry " + lorry, Edge.SOME, Check.BEYOND, x -> x.gets(lorry, 0));
        }
        for (int i : new int[] {-1, 2, Integer.MIN_VALUE, Integer.MAX_VALUE}) {
            EDGE.refused("15 no place " + i, Edge.SOME, Check.BEYOND, x -> x.gets(0, i));
            EDGE.refused("15 BEYOND ahead of NONE " + i, Edge.SOME, Check.BEYOND, x -> x.gets(2, i));
            EDGE.refused("15 neither", Edge.SOME, Check.BEYOND, x -> x.gets(4, i));
        }
        EDGE.refused("15 no lorry of a full one", Edge.FULL, Check.BEYOND, x -> x.gets(6, 0));
        EDGE.ends("17 worth", Edge.SOME, new int[] {0}, new int[][] {{0, 5}}, (x, a) -> x.worth(a[0]));
        EDGE.ends("17 worth of a full one", Edge.FULL, new int[] {0}, new int[][] {{0, 7}}, (x, a) -> x.worth(a[0]));
        for (int v : EXTREMES) {
            EDGE.refused("17 worth of a new one", Edge.FRESH, Check.BEYOND, x -> x.worth(v));
        }
    }

    private static LoadBourse twoTowns(int lorries, int home, int... pays) {
        LoadBourse x = new LoadBourse();
        x.road(0, 1, 50);
        for (int i = 0; i < lorries; i++) {
            x.lorry(0, 0, 0, 40000 + home, 40, 40);
        }
        for (int pay : pays) {
            x.load(1, 0, 1, 1, pay);
        }
        return x;
    }

    private static void gets(String name, LoadBourse x, int... want) {
        for (int i = 0; i < want.length; i++) {
            due(name + " " + i, x.gets(i / 2, i % 2), want[i] < 0 ? Check.NONE : want[i]);
        }
    }

    /** As much as none is none; one more is a load. */
    private static void givingNoneFirst() {
        gets("15 worth one less than none", twoTowns(1, 0, 49), -1, -1);
        gets("15 worth as much as none", twoTowns(1, 0, 50), -1, -1);
        gets("15 worth one more than none", twoTowns(1, 0, 51), 0, -1);
        due("14 worth as much as none", twoTowns(1, 0, 50).best(), 0);
        due("14 worth one more than none", twoTowns(1, 0, 51).best(), 1);
        due("16 as much as none, so none", twoTowns(1, 0, 50).empty(false), 0);
        due("16 one more than none", twoTowns(1, 0, 51).empty(false), 50);
        gets("15 no loads", twoTowns(2, 1), -1, -1, -1, -1);
        due("14 no loads", twoTowns(2, 1).best(), -100);
        due("14 no lorries", twoTowns(0, 1, 9999).best(), 0);
        due("17 no lorries", twoTowns(0, 1, 9999).worth(0), 0);
    }

    /** Of several that are worth as much: by the first load, one alone ahead of two, then by the second one. */
    private static void givingOrder() {
        gets("15 the first of like loads", twoTowns(1, 1, 60, 60), 0, 1);
        gets("15 one alone ahead of two", twoTowns(1, 1, 60, 50), 0, -1);
        gets("15 two that are worth one more", twoTowns(1, 1, 60, 51), 0, 1);
        gets("15 the second by its number", twoTowns(1, 1, 60, 60, 60), 0, 1);
        gets("15 the second by its worth", twoTowns(1, 1, 60, 60, 61), 0, 2);
        gets("15 the first by its worth", twoTowns(1, 1, 60, 61, 61), 1, 2);
        gets("15 by its worth alone", twoTowns(1, 1, 49, 51), 1, -1);
        gets("15 two by the first load ahead of one alone", twoTowns(1, 1, 50, 51), 0, 1);
        gets("15 the last lorries have them", twoTowns(3, 0, 60, 60), -1, -1, -1, -1, 0, 1);
        gets("15 lorry by lorry", twoTowns(2, 0, 60, 60, 60), 0, -1, 1, 2);
        gets("15 each load once", twoTowns(2, 0, 60), -1, -1, 0, -1);
        gets("15 a row has two at most", twoTowns(1, 0, 60, 70, 80), 1, 2);
        due("14 a row has two at most", twoTowns(1, 0, 60, 70, 80).best(), 50);
    }

    private static void givingByHand() {
        LoadBourse x = twoTowns(1, 1, 60, 70);
        x.give(1, 0);
        gets("15 one is given by hand", x, 0, -1);
        due("14 one is given by hand", x.best(), 60);
        due("17 one is given by hand", x.worth(1), 0);
        x.give(0, 0);
        gets("15 all are given by hand", x, -1, -1);
        due("14 all are given by hand", x.best(), -50);
        due("16 all are given by hand", x.empty(false), 50);
        x.give(0, -1);
        gets("15 one no more", x, 0, -1);
        x.undo();
        x.undo();
        x.undo();
        gets("15 all undone", x, 0, 1);
    }

    /** A lorry without a right drive of none has value 0, goes nowhere and gets nothing. */
    private static void givingGoesNowhere() {
        LoadBourse x = twoTowns(1, 1, 60);
        x.lorry(0, 5, 0, 40000, 40, 40);
        x.lorry(0, 0, 100, 1491, 40, 40);
        x.lorry(0, 0, 100, 1501, 40, 40);
        due("14 they are worth nothing", x.best(), 60 - 50);
        gets("15 they get nothing", x, 0, -1, -1, -1, -1, -1, -1, -1);
        due("12 in time without a load only", x.why(3, 0, -1), 4);
        due("16 they go nowhere", x.empty(true), 100);
    }

    /** What does not fit is got by nobody, whichever load it is. */
    private static void givingFits() {
        int[][] misfits = {{0, 21, 1}, {0, 1, 21}, {1, 1, 1}, {2, 1, 1}};
        for (int load = 0; load < 8; load++) {
            for (int[] m : misfits) {
                LoadBourse x = new LoadBourse();
                x.road(0, 1, 10);
                x.lorry(0, 0, 0, 40000, 20, 20);
                for (int i = 0; i < 8; i++) {
                    x.load(1, i == load ? m[0] : 2, i == load ? m[1] : 1, i == load ? m[2] : 1, 9999);
                }
                gets("15 does not fit, load " + load, x, -1, -1);
                due("14 does not fit, load " + load, x.best(), 0);
                due("17 does not fit, load " + load, x.worth(load), 0);
                x.sheet(0, 16, 1);
                x.put(0, 0, 100 * (load + 1));
                due("34 does not fit, load " + load, x.proves(0), 0);
            }
        }
    }

    /** The giving is that of now: behind each act, and behind one that took the place of an undone one. */
    private static void givingAfterEachAct() {
        LoadBourse x = twoTowns(1, 0, 60);
        x.lorry(0, 1, 0, 40000, 40, 40);
        due("14 the second lorry goes home empty", x.best(), 10 - 50);
        x.undo();
        due("14 it is no more", x.best(), 10);
        x.load(10, 0, 1, 1, 70);
        due("14 a load back", x.best(), 130);
        gets("15 there and back", x, 0, 1);
        x.undo();
        x.load(10, 0, 1, 1, 1);
        due("14 another one that took its place", x.best(), 61);
        x.undo();
        x.pay(0, 50);
        due("14 and now less", x.best(), 0);
        gets("15 so nothing is got", x, -1, -1);
        x.undo();
        x.road(0, 1, 59);
        due("14 a longer road", x.best(), 1);
    }

    /** Loads to the lorries' home: each one's first load spares 50 EMPTY minutes, and a second one costs as many. */
    private static void givingToManyLorries() {
        int[] pays = {900, 800, 700, 600, 500, 400, 300, 200};
        int[] sums = {0, 1700, 3000, 3900, 4400, 4400, 4400};
        int[] emptyTimes = {0, 1, 2, 3, 4, 3, 2};
        for (int lorries = 0; lorries <= 6; lorries++) {
            LoadBourse x = twoTowns(lorries, 1, pays);
            due("14 of " + lorries + " lorries", x.best(), sums[lorries] - 50 * emptyTimes[lorries]);
            due("16 of " + lorries + " lorries", x.empty(false), 50 * emptyTimes[lorries]);
            due("16 without, of " + lorries + " lorries", x.empty(true), 50 * lorries);
            for (int load = 0; load < 8; load++) {
                boolean isGot = load < 2 * lorries;
                int instead = lorries < 4 ? pays[Math.min(2 * lorries, 7)] : 50;
                due("17 load " + load + " of " + lorries + " lorries", x.worth(load), isGot ? pays[load] - instead : 0);
            }
        }
    }

    /** As above, but the last of four lorries is home in time with one load only. */
    private static void givingToALorryWithoutTime() {
        int[] pays = {900, 800, 700, 600, 500, 400, 300, 200};
        LoadBourse x = twoTowns(3, 1, pays);
        x.lorry(0, 0, 0, 1101, 40, 40);
        due("12 one load in time", x.why(3, 0, -1), 0);
        due("12 two loads too late", x.why(3, 0, 1), 4);
        due("14 seven loads", x.best(), 4200 - 150);
        for (int load = 0; load < 8; load++) {
            due("17 of seven, load " + load, x.worth(load), pays[load] - 200);
        }
    }

    public static void main(String[] args) {
        promise12Ends();
        promise12Kind();
        promise13Ends();
        paragraph2OneWay();
        paragraph2AtHome();
        paragraph2RestsOverDocks();
        paragraph2TooMuch();
        paragraph2Windows();
        paragraph2Waits();
        paragraph2RestedByWaiting();
        paragraph2FirstPlace();
        paragraph2LastMinutes();
        promises14To17OfSome();
        promises15And17Ends();
        givingNoneFirst();
        givingOrder();
        givingByHand();
        givingGoesNowhere();
        givingFits();
        givingAfterEachAct();
        givingToManyLorries();
        givingToALorryWithoutTime();
        CHECK.end();
    }
}
