/** Counts the answers of one test and tells those that are not as due. */
final class Check {
    static final int BEYOND = -100001;
    static final int MISSING = -100002;
    static final int SIZE = -100003;
    static final int KIND = -100004;
    static final int FULL = -100005;
    static final int NONE = -100006;
    static final int BARRED = -100008;

    /** Numbers at which arithmetic without a look at its arguments goes wrong. */
    static final int[] EXTREMES = {Integer.MIN_VALUE, Integer.MIN_VALUE + 1, -1000000, -100, -2, -1,
        41, 100, 1000000, Integer.MAX_VALUE - 1, Integer.MAX_VALUE};

    private static final int MOST_TOLD = 40;

    private final String name;
    private int asked;
    private int wrong;

    Check(String name) {
        this.name = name;
    }

    void due(String call, int got, int want) {
        asked++;
        if (got != want) {
            tell(call + " answered " + got + ", due is " + want);
        }
    }

    void holds(String what, boolean does) {
        asked++;
        if (!does) {
            tell(what);
        }
    }

    private void tell(String line) {
        wrong++;
        if (wrong <= MOST_TOLD) {
            System.out.println(name + ": " + line);
        }
    }

    void end() {
        System.out.println(name + ": " + asked + " asked, " + wrong + " wrong");
        if (wrong != 0 || asked == 0) {
            System.exit(1);
        }
    }
}
