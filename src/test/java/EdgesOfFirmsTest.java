import java.util.Arrays;

/** The edges of promises 18 to 26, and of paragraphs 3 and 4: prices, contracts, reports, trust. */
public final class EdgesOfFirmsTest {
    private static final Check CHECK = new Check("EdgesOfFirmsTest");
    private static final Edge EDGE = new Edge(CHECK);

    private static final int[] FIRM = {0, 9};
    private static final int[] DAY = {0, 365};
    private static final int[] NO_LANES = {-1, -7, -10, -11, 8, 9, 18, 19, 68, 69, 78, 79, 80, 81, 88, 90, 99, 100, 101,
        1000, Integer.MIN_VALUE, Integer.MAX_VALUE};
    private static final int[] LANES = {0, 1, 7, 10, 11, 17, 70, 76, 77};

    private static void due(String call, int got, int want) {
        CHECK.due(call, got, want);
    }

    private static Edge.Calls paid() {
        return (x, a) -> x.paid(a[0], a[1], a[2]);
    }

    private static void promise18Ends() {
        int[][] ranges = {null, DAY, {0, 9999}};
        EDGE.ends("18 paid", Edge.SOME, new int[] {34, 100, 50}, ranges, paid());
        for (int lane : LANES) {
            EDGE.taken("18 lane " + lane, Edge.SOME, 7, x -> x.paid(lane, 200, 77), 77, x -> x.span(lane, 200, 1));
        }
        for (int lane : NO_LANES) {
            EDGE.refused("18 lane " + lane, Edge.SOME, Check.BEYOND, x -> x.paid(lane, 100, 50));
            EDGE.refused("18 BEYOND ahead of FULL, lane " + lane, Edge.FULL, Check.BEYOND, x -> x.paid(lane, 100, 50));
        }
        EDGE.beyondFirst("18 full", Edge.FULL, new int[] {34, 100, 50}, ranges, Check.FULL, paid());
        EDGE.taken("18 the first day, for nothing", Edge.SOME, 7, x -> x.paid(34, 0, 0), 0, x -> x.span(34, 0, 0));
        EDGE.taken("18 the last day, for the most", Edge.SOME, 7, x -> x.paid(34, 365, 9999), 9999,
            x -> x.span(34, 365, 2));
        LoadBourse x = new LoadBourse();
        for (int i = 1; i <= 40; i++) {
            due("18 how many", x.paid(1, 0, i), i);
        }
        due("18 the 41st", x.paid(1, 0, 41), Check.FULL);
        due("18 nor on another lane", x.paid(2, 0, 41), Check.FULL);
        due("18 forty", x.span(1, 0, 3), 40);
        due("18 the last one is no more", x.undo(), 15);
        due("18 39 of this lane", x.span(1, 0, 3), 39);
        due("18 so there is place for one", x.paid(2, 0, 41), 40);
        due("18 and not for two", x.paid(2, 0, 41), Check.FULL);
    }

    private static void promise19Ends() {
        int[][] ranges = {null, DAY, {0, 3}};
        EDGE.ends("19 span", Edge.SOME, new int[] {1, 30, 3}, new int[][] {null, DAY, null},
            (x, a) -> x.span(a[0], a[1], a[2]));
        EDGE.ends("19 what", Edge.SOME, new int[] {1, 30, 3}, new int[][] {null, null, {0, 3}},
            (x, a) -> x.span(a[0], a[1], a[2]));
        EDGE.beyondFirst("19 none", Edge.SOME, new int[] {34, 30, 0}, ranges, Check.NONE,
            (x, a) -> x.span(a[0], a[1], a[2]));
        for (int lane : NO_LANES) {
            EDGE.refused("19 lane " + lane, Edge.SOME, Check.BEYOND, x -> x.span(lane, 30, 3));
            EDGE.refused("19 BEYOND ahead of NONE, lane " + lane, Edge.FRESH, Check.BEYOND, x -> x.span(lane, 30, 0));
        }
        for (int lane : LANES) {
            EDGE.asked("19 none of lane " + lane, Edge.FRESH, 0, x -> x.span(lane, 30, 3));
            for (int what = 0; what < 3; what++) {
                int w = what;
                EDGE.refused("19 what " + w + " of lane " + lane, Edge.FRESH, Check.NONE, x -> x.span(lane, 365, w));
            }
        }
        for (int day : new int[] {0, 1, 29, 30, 365}) {
            for (int lane : LANES) {
                EDGE.asked("19 none of lane " + lane + " on day " + day, Edge.FRESH, 0, x -> x.span(lane, day, 3));
            }
            EDGE.asked("19 none of lane 0 among others, on day " + day, Edge.SOME, 0, x -> x.span(0, day, 3));
        }
        // 500 on day 0, 300 on day 29, 400 on day 30, 100 on day 59.
        int[][] days = {{0, 1, 500, 500, 500}, {28, 1, 500, 500, 500}, {29, 2, 300, 300, 500}, {30, 2, 300, 300, 400},
            {58, 2, 300, 300, 400}, {59, 2, 100, 100, 400}, {60, 1, 100, 100, 100}, {88, 1, 100, 100, 100}};
        for (int[] d : days) {
            EDGE.asked("19 how many on day " + d[0], Edge.SOME, d[1], x -> x.span(1, d[0], 3));
            for (int what = 0; what < 3; what++) {
                int w = what;
                EDGE.asked("19 what " + w + " on day " + d[0], Edge.SOME, d[2 + w], x -> x.span(1, d[0], w));
            }
        }
        EDGE.asked("19 none on day 89", Edge.SOME, 0, x -> x.span(1, 89, 3));
        EDGE.refused("19 nothing on day 89", Edge.SOME, Check.NONE, x -> x.span(1, 89, 1));
        EDGE.asked("19 the last day", Edge.SOME, 9999, x -> x.span(12, 365, 0));
        EDGE.refused("19 the day ahead of the last", Edge.SOME, Check.NONE, x -> x.span(12, 364, 0));
        EDGE.asked("19 a price of nothing is one", Edge.SOME, 0, x -> x.span(77, 0, 0));
        EDGE.asked("19 and is counted", Edge.SOME, 1, x -> x.span(77, 29, 3));
        EDGE.asked("19 up to day 29", Edge.SOME, 0, x -> x.span(77, 30, 3));
    }

    /** The 30 days up to a day, at the end of the days. */
    private static void paragraph3LastDays() {
        LoadBourse x = new LoadBourse();
        x.paid(1, 335, 5);
        due("3 30 days ahead of the last one", x.span(1, 365, 3), 0);
        x.paid(1, 336, 6);
        due("3 29 days ahead of the last one", x.span(1, 365, 3), 1);
        due("3 both the day before", x.span(1, 364, 3), 2);
        x.paid(1, 365, 7);
        due("3 the last day is with it", x.span(1, 365, 3), 2);
        due("3 and not the day before", x.span(1, 364, 3), 2);
    }

    /** With 1 to 40 prices, told in an order that is not theirs. */
    private static void paragraph3Places() {
        LoadBourse x = new LoadBourse();
        int[] came = new int[40];
        for (int n = 1; n <= 40; n++) {
            came[n - 1] = n * 7 % 41 / 2 * 3;
            x.paid(70, n % 30, came[n - 1]);
            int[] sorted = Arrays.copyOf(came, n);
            Arrays.sort(sorted);
            due("3 the lesser of " + n, x.span(70, 29, 0), sorted[n / 4]);
            due("3 the middle of " + n, x.span(70, 29, 1), sorted[(n - 1) / 2]);
            due("3 the greater of " + n, x.span(70, 29, 2), sorted[n - 1 - n / 4]);
            due("3 how many of " + n, x.span(70, 29, 3), n);
        }
    }

    private static Edge.Calls contract() {
        return (x, a) -> x.contract(a[0], a[1], a[2]);
    }

    private static void promise20Ends() {
        EDGE.ends("20 contract", Edge.SOME, new int[] {3, 4, 5}, new int[][] {{0, 5}, FIRM, FIRM}, contract());
        for (int firm = 0; firm < 10; firm++) {
            int f = firm;
            EDGE.refused("20 they are one, " + f, Edge.SOME, Check.SIZE, x -> x.contract(0, f, f));
            EDGE.refused("20 SIZE ahead of FULL, " + f, Edge.FULL, Check.SIZE, x -> x.contract(0, f, f));
            EDGE.refused("20 BEYOND ahead of SIZE, " + f, Edge.SOME, Check.BEYOND, x -> x.contract(6, f, f));
            EDGE.refused("20 BEYOND ahead of SIZE and FULL, " + f, Edge.FULL, Check.BEYOND, x -> x.contract(8, f, f));
        }
        for (int firm : new int[] {-1, 10, Integer.MIN_VALUE, Integer.MAX_VALUE}) {
            EDGE.refused("20 no firm twice " + firm, Edge.SOME, Check.BEYOND, x -> x.contract(0, firm, firm));
        }
        int[][] ranges = {{0, 7}, FIRM, FIRM};
        EDGE.beyondFirst("20 full", Edge.FULL, new int[] {3, 4, 5}, ranges, Check.FULL, contract());
        EDGE.taken("20 the ends", Edge.SOME, 6, x -> x.contract(5, 0, 9), 8, x -> x.chain(5, 0, true));
        EDGE.taken("20 one that is there already", Edge.SOME, 6, x -> x.contract(0, 0, 1), 7, x -> x.all(3));
        LoadBourse x = new LoadBourse();
        x.load(1, 0, 1, 1, 0);
        for (int i = 0; i < 20; i++) {
            due("20 the number", x.contract(0, 0, 1), i);
        }
        due("20 the 21st", x.contract(0, 0, 1), Check.FULL);
        due("20 twenty", x.all(3), 20);
        due("20 the last one is no more", x.undo(), 15);
        due("20 so there is place for one", x.contract(0, 0, 1), 19);
        due("20 and not for two", x.contract(0, 0, 1), Check.FULL);
    }

    private static void promise21Ends() {
        for (boolean end : new boolean[] {false, true}) {
            Edge.Calls chain = (x, a) -> x.chain(a[0], a[1], end);
            EDGE.ends("21 chain", Edge.SOME, new int[] {0, 0}, new int[][] {{0, 5}, FIRM}, chain);
            EDGE.ends("21 chain of a full one", Edge.FULL, new int[] {0, 0}, new int[][] {{0, 7}, FIRM}, chain);
            EDGE.refused("21 neither", Edge.SOME, Check.BEYOND, x -> x.chain(6, 10, end));
        }
        int[][] chains = {{0, 0, 4, 4}, {0, 1, 4, 3}, {0, 2, 3, 2}, {0, 3, 0, 3}, {0, 4, 0, 4}, {0, 9, 0, 9},
            {5, 9, 1, 8}, {5, 8, 0, 8}, {5, 0, 0, 0}, {1, 0, 0, 0}};
        for (int[] c : chains) {
            EDGE.asked("21 how many " + Arrays.toString(c), Edge.SOME, c[2], x -> x.chain(c[0], c[1], false));
            EDGE.asked("21 carries " + Arrays.toString(c), Edge.SOME, c[3], x -> x.chain(c[0], c[1], true));
        }
        LoadBourse x = new LoadBourse();
        x.load(1, 0, 1, 1, 0);
        for (int firm = 0; firm < 10; firm++) {
            due("21 no contract at all, " + firm, x.chain(0, firm, false), 0);
            due("21 it stays with " + firm, x.chain(0, firm, true), firm);
        }
        x.contract(0, 5, 0);
        due("21 one contract", x.chain(0, 5, false), 1);
        due("21 it ends with firm 0", x.chain(0, 5, true), 0);
        x.undo();
        for (int i = 0; i < 20; i++) {
            x.contract(0, i % 10, (i + 1) % 10);
        }
        for (int firm = 0; firm < 10; firm++) {
            due("21 twenty, twice round from " + firm, x.chain(0, firm, false), 20);
            due("21 and ends where it began, " + firm, x.chain(0, firm, true), firm);
        }
    }

    private static void promise22Ends() {
        EDGE.ends("22 doubles", Edge.SOME, new int[] {0}, new int[][] {{0, 5}}, (x, a) -> x.doubles(a[0]));
        EDGE.ends("22 doubles of a full one", Edge.FULL, new int[] {0}, new int[][] {{0, 7}},
            (x, a) -> x.doubles(a[0]));
        int[] doubles = {2, 0, 0, 0, 0, 0};
        for (int load = 0; load < 6; load++) {
            int l = load;
            EDGE.asked("22 of load " + l, Edge.SOME, doubles[l], x -> x.doubles(l));
        }
        LoadBourse x = new LoadBourse();
        x.load(1, 0, 1, 1, 0);
        for (int firm = 0; firm < 10; firm++) {
            x.contract(0, firm, (firm + 1) % 10);
            due("22 to one firm, " + firm, x.doubles(0), firm);
            x.contract(0, firm, (firm + 9) % 10);
            due("22 to two firms, " + firm, x.doubles(0), firm + 1);
        }
        x.undo();
        due("22 one no more", x.doubles(0), 9);
    }

    private static void promise23Ends() {
        int[][] ranges = {{0, 3}, {0, 7}, {0, 4000}};
        EDGE.ends("23 report", Edge.SOME, new int[] {1, 4, 500}, ranges, (x, a) -> x.report(a[0], a[1], a[2]));
        EDGE.beyondFirst("23 full", Edge.FULL, new int[] {1, 4, 500}, new int[][] {{0, 5}, {0, 7}, {0, 4000}},
            Check.FULL, (x, a) -> x.report(a[0], a[1], a[2]));
        // Report 4 is of lorry 3 in town 2 at minute 5, and nobody comes to town 7.
        EDGE.taken("23 the ends", Edge.SOME, 5, x -> x.report(3, 7, 4000), 405, x -> x.cannot(3, true));
        EDGE.taken("23 the first of all", Edge.SOME, 5, x -> x.report(3, 0, 0), 405, x -> x.cannot(3, true));
        LoadBourse x = new LoadBourse();
        x.lorry(0, 0, 0, 0, 1, 1);
        for (int i = 0; i < 30; i++) {
            due("23 the number", x.report(0, 0, 0), i);
        }
        due("23 the 31st", x.report(0, 0, 0), Check.FULL);
        due("23 thirty", x.all(4), 30);
        due("23 the last one is no more", x.undo(), 15);
        due("23 so there is place for one", x.report(0, 1, 0), 29);
        due("23 and not for two", x.report(0, 0, 0), Check.FULL);
        due("23 the last one is of another town", x.cannot(0, false), 29);
        due("23 and is told", x.cannot(0, true), 29);
    }

    private static void promise24Ends() {
        for (boolean first : new boolean[] {false, true}) {
            for (int lorry : new int[] {-1, 4, Integer.MIN_VALUE, Integer.MAX_VALUE}) {
                EDGE.refused("24 no lorry " + lorry, Edge.SOME, Check.BEYOND, x -> x.cannot(lorry, first));
            }
            EDGE.refused("24 no lorry of a full one", Edge.FULL, Check.BEYOND, x -> x.cannot(6, first));
        }
        int[] pairs = {4, 0, 0, 0};
        for (int lorry = 0; lorry < 4; lorry++) {
            int l = lorry;
            EDGE.asked("24 pairs of " + l, Edge.SOME, pairs[l], x -> x.cannot(l, false));
        }
        EDGE.asked("24 the first", Edge.SOME, 1, x -> x.cannot(0, true));
        for (int lorry = 1; lorry < 4; lorry++) {
            int l = lorry;
            EDGE.refused("24 no first of " + l, Edge.SOME, Check.NONE, x -> x.cannot(l, true));
        }
    }

    /** FAR of their towns is above what is between: 100 minutes by 99, 100 and 101, both ways. */
    private static void paragraph4CannotBe() {
        for (int minutes : new int[] {0, 1, 99, 100, 101}) {
            for (int later = 0; later < 2; later++) {
                LoadBourse x = new LoadBourse();
                x.road(2, 3, 60);
                x.road(3, 4, 40);
                x.lorry(0, 0, 0, 0, 1, 1);
                x.report(0, 2, 1000 + later * minutes);
                x.report(0, 4, 1000 + (1 - later) * minutes);
                due("4 after " + minutes + " minutes", x.cannot(0, false), minutes < 100 ? 1 : 0);
                due("4 the first after " + minutes, x.cannot(0, true), minutes < 100 ? 1 : Check.NONE);
            }
        }
        LoadBourse x = new LoadBourse();
        x.lorry(0, 0, 0, 0, 1, 1);
        x.lorry(0, 0, 0, 0, 1, 1);
        x.report(0, 6, 0);
        x.report(0, 6, 0);
        x.report(1, 7, 0);
        due("4 one town at one minute", x.cannot(0, false), 0);
        due("4 two lorries", x.cannot(1, false), 0);
        x.report(0, 7, 4000);
        due("4 there is no way", x.cannot(0, false), 2);
        due("4 the first by both numbers", x.cannot(0, true), 3);
        x.road(6, 7, 400);
        due("4 there is one now", x.cannot(0, false), 0);
        LoadBourse order = new LoadBourse();
        order.lorry(0, 0, 0, 0, 1, 1);
        order.road(0, 1, 60);
        int[][] reports = {{0, 0}, {1, 100}, {0, 101}, {0, 500}, {1, 30}};
        for (int[] r : reports) {
            order.report(0, r[0], r[1]);
        }
        // Of reports 1 and 2, and of 0 and 4.
        due("4 two pairs", order.cannot(0, false), 2);
        due("4 by the lesser number first", order.cannot(0, true), 4);
        LoadBourse last = new LoadBourse();
        last.lorry(0, 0, 0, 0, 1, 1);
        for (int i = 0; i < 29; i++) {
            last.report(0, 3, 0);
        }
        last.report(0, 4, 0);
        due("4 29 pairs", last.cannot(0, false), 29);
        due("4 the first of these", last.cannot(0, true), 29);
        LoadBourse lastPair = new LoadBourse();
        lastPair.lorry(0, 0, 0, 0, 1, 1);
        lastPair.lorry(0, 0, 0, 0, 1, 1);
        for (int i = 0; i < 28; i++) {
            lastPair.report(0, i % 8, 0);
        }
        lastPair.report(1, 0, 0);
        lastPair.report(1, 1, 0);
        due("4 the last pair of all", lastPair.cannot(1, true), 2829);
    }

    private static void promise25Ends() {
        for (boolean done : new boolean[] {false, true}) {
            Edge.Calls trusts = (x, a) -> x.trusts(a[0], done);
            EDGE.ends("25 trusts", Edge.SOME, new int[] {5}, new int[][] {FIRM}, trusts);
            EDGE.refused("25 full", Edge.JUDGED, Check.FULL, x -> x.trusts(9, done));
            EDGE.taken("25 another firm is not full", Edge.JUDGED, 1, x -> x.trusts(8, done), done ? 25 : 0,
                x -> x.trust(8, false));
            EDGE.taken("25 the first", Edge.FRESH, 1, x -> x.trusts(0, done), done ? 100 : 75, x -> x.trust(0, true));
            EDGE.taken("25 one more", Edge.SOME, 4, x -> x.trusts(4, done), done ? 42 : 28, x -> x.trust(4, false));
            EDGE.refused("25 BEYOND", Edge.JUDGED, Check.BEYOND, x -> x.trusts(10, done));
            LoadBourse x = new LoadBourse();
            for (int i = 1; i <= 200; i++) {
                due("25 all alike", x.trusts(3, done), i);
            }
            due("25 the 201st", x.trusts(3, done), Check.FULL);
            due("25 nor of the other sort", x.trusts(3, !done), Check.FULL);
            due("25 all alike, least", x.trust(3, false), done ? 98 : 0);
            due("25 all alike, greatest", x.trust(3, true), done ? 100 : 1);
            due("25 the last one is no more", x.undo(), 15);
            due("25 so there is place for one", x.trusts(3, !done), 200);
            due("25 and not for two", x.trusts(3, !done), Check.FULL);
        }
    }

    private static void promise26Ends() {
        for (boolean greatest : new boolean[] {false, true}) {
            Edge.Calls trust = (x, a) -> x.trust(a[0], greatest);
            EDGE.ends("26 trust", Edge.SOME, new int[] {5}, new int[][] {FIRM}, trust);
            EDGE.asked("26 of nobody known", Edge.FRESH, greatest ? 100 : 0, x -> x.trust(9, greatest));
            EDGE.asked("26 two of three", Edge.SOME, greatest ? 83 : 33, x -> x.trust(4, greatest));
            EDGE.asked("26 none of one", Edge.SOME, greatest ? 75 : 0, x -> x.trust(9, greatest));
            EDGE.asked("26 a hundred of two hundred", Edge.JUDGED, greatest ? 50 : 49, x -> x.trust(9, greatest));
        }
        for (int done = 0; done <= 12; done++) {
            LoadBourse x = new LoadBourse();
            for (int i = 0; i < 12; i++) {
                x.trusts(6, i < done);
            }
            due("26 least of " + done, x.trust(6, false), 100 * done / 15);
            due("26 greatest of " + done, x.trust(6, true), 100 * (done + 3) / 15);
        }
    }

    public static void main(String[] args) {
        promise18Ends();
        promise19Ends();
        paragraph3LastDays();
        paragraph3Places();
        promise20Ends();
        promise21Ends();
        promise22Ends();
        promise23Ends();
        promise24Ends();
        paragraph4CannotBe();
        promise25Ends();
        promise26Ends();
        CHECK.end();
    }
}
