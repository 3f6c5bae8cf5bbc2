/** Promises 18 and 19: prices. */
public final class PricesTest {
    private static final Check CHECK = new Check("PricesTest");

    private static void due(String call, int got, int want) {
        CHECK.due(call, got, want);
    }

    private static void promise18Paid() {
        LoadBourse x = new LoadBourse();
        due("18 first", x.paid(0, 0, 0), 1);
        due("18 greatest", x.paid(77, 365, 9999), 2);
        int[][] beyond = {{-1, 0, 0}, {8, 0, 0}, {9, 0, 0}, {78, 0, 0}, {80, 0, 0}, {100, 0, 0}, {0, -1, 0}, {0, 366, 0},
            {0, 0, -1}, {0, 0, 10000}};
        for (int[] a : beyond) {
            due("18 beyond " + java.util.Arrays.toString(a), x.paid(a[0], a[1], a[2]), Check.BEYOND);
        }
        for (int v : Check.EXTREMES) {
            due("18 extreme lane", x.paid(v < 0 ? v : v + 100, 0, 0), Check.BEYOND);
        }
        due("18 none came", x.all(2), 2);
        for (int i = 3; i <= 40; i++) {
            due("18 more", x.paid(12, i, i), i);
        }
        due("18 full", x.paid(12, 1, 1), Check.FULL);
        due("18 beyond ahead of full", x.paid(12, 366, 1), Check.BEYOND);
        due("18 forty", x.all(2), 40);
        due("18 one is taken back", x.undo(), 15);
        due("18 one comes again", x.paid(12, 1, 1), 40);
    }

    /** The places are those that the document tells, worked out by hand: lesser, MIDDLE, greater. */
    private static void promise19Places() {
        int[][] places = {{0, 0, 0}, {0, 0, 1}, {0, 1, 2}, {1, 1, 2}, {1, 2, 3}, {1, 2, 4}, {1, 3, 5}, {2, 3, 5},
            {2, 4, 6}};
        int[] came = {50, 10, 90, 30, 70, 20, 80, 40, 60};
        LoadBourse x = new LoadBourse();
        for (int n = 1; n <= came.length; n++) {
            x.paid(34, 100, came[n - 1]);
            int[] sorted = java.util.Arrays.copyOf(came, n);
            java.util.Arrays.sort(sorted);
            for (int what = 0; what < 3; what++) {
                due("19 " + what + " of " + n, x.span(34, 100, what), sorted[places[n - 1][what]]);
            }
            due("19 how many", x.span(34, 100, 3), n);
        }
        LoadBourse y = new LoadBourse();
        for (int i = 0; i < 40; i++) {
            y.paid(1, i % 30, 39 - i);
        }
        due("19 of forty, lesser", y.span(1, 29, 0), 10);
        due("19 of forty, MIDDLE", y.span(1, 29, 1), 19);
        due("19 of forty, greater", y.span(1, 29, 2), 29);
    }

    private static void promise19Days() {
        LoadBourse x = new LoadBourse();
        x.paid(12, 50, 7);
        due("19 on that day", x.span(12, 50, 3), 1);
        due("19 a day ahead", x.span(12, 49, 3), 0);
        due("19 29 days behind", x.span(12, 79, 3), 1);
        due("19 30 days behind", x.span(12, 80, 3), 0);
        due("19 another lane", x.span(13, 50, 3), 0);
        due("19 the way back", x.span(21, 50, 3), 0);
        for (int what = 0; what < 3; what++) {
            due("19 of none " + what, x.span(12, 49, what), Check.NONE);
            due("19 of one " + what, x.span(12, 50, what), 7);
        }
        x.paid(12, 0, 5);
        due("19 the first day", x.span(12, 0, 1), 5);
        due("19 the last day", x.span(12, 365, 3), 0);
        int[][] beyond = {{-1, 50, 0}, {8, 50, 0}, {78, 50, 0}, {80, 50, 0}, {12, -1, 0}, {12, 366, 0}, {12, 50, -1},
            {12, 50, 4}};
        for (int[] a : beyond) {
            due("19 beyond " + java.util.Arrays.toString(a), x.span(a[0], a[1], a[2]), Check.BEYOND);
        }
        for (int v : Check.EXTREMES) {
            due("19 extreme what", x.span(12, 50, v), Check.BEYOND);
        }
    }

    public static void main(String[] args) {
        promise18Paid();
        promise19Places();
        promise19Days();
        CHECK.end();
    }
}
