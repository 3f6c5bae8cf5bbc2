/** Promises 34 to 39: sheets, the whole. */
public final class WholeTest {
    private static final Check CHECK = new Check("WholeTest");

    private static void due(String call, int got, int want) {
        CHECK.due(call, got, want);
    }

    private static int proves(LoadBourse x, int bits, int... rows) {
        x.sheet(0, bits, rows.length);
        for (int i = 0; i < rows.length; i++) {
            x.put(0, i, rows[i]);
        }
        return x.proves(0);
    }

    /** Two lorries at home in town 0 with room for all but load 3; loads there, back, there, and too heavy. */
    private static LoadBourse bourse() {
        LoadBourse x = new LoadBourse();
        x.road(0, 1, 50);
        x.lorry(0, 0, 0, 40000, 20, 20);
        x.lorry(0, 0, 0, 40000, 20, 20);
        x.load(1, 0, 1, 1, 100);
        x.load(10, 0, 1, 1, 100);
        x.load(1, 0, 1, 1, 100);
        x.load(1, 0, 1, 21, 9999);
        x.load(25, 0, 1, 1, 9999);
        return x;
    }

    private static void promise34Proves() {
        LoadBourse x = bourse();
        due("34 best", x.best(), 250);
        due("34 as gets() tells it", proves(x, 16, 102, 300), -1);
        due("34 another way that is worth as much", proves(x, 16, 100, 302), -1);
        due("34 with 32 bits", proves(x, 32, 302, 100), -1);
        due("34 worth less", proves(x, 16, 102, 0), 2);
        due("34 nothing at all", proves(x, 16, 0, 0), 2);
        due("34 one that is there already", proves(x, 16, 102, 100), 1);
        due("34 one twice", proves(x, 16, 101, 300), 0);
        due("34 as the second one", proves(x, 16, 102, 302), 1);
        due("34 none ahead of one", proves(x, 16, 2, 300), 0);
        due("34 does not fit", proves(x, 16, 102, 400), 1);
        due("34 can't be come to", proves(x, 16, 500, 102), 0);
        due("34 second can't be come to", proves(x, 16, 105, 0), 0);
        due("34 no such load", proves(x, 16, 102, 600), 1);
        due("34 no such second load", proves(x, 16, 106, 300), 0);
        due("34 no load so far away", proves(x, 16, 199, 300), 0);
        due("34 below 0", proves(x, 16, 102, -100), 1);
        due("34 below 0 by little", proves(x, 16, -1, 102), 0);
        due("34 the least number", proves(x, 32, Integer.MIN_VALUE, 300), 0);
        due("34 the greatest number", proves(x, 32, 102, Integer.MAX_VALUE), 1);
        due("34 the lowest 16 bits", proves(x, 16, 102 + 65536, 300), -1);
        due("34 all 32 bits", proves(x, 32, 102 + 65536, 300), 0);
        due("34 8 bits have a sign", proves(x, 8, 102, 200), 1);
        due("34 the first of two that may not be", proves(x, 16, 999, 999), 0);
        x.give(2, 0);
        due("34 given by hand", proves(x, 16, 102, 300), 1);
        due("34 without it", proves(x, 16, 102, 0), -1);
        due("34 by the other lorry", proves(x, 16, 0, 102), -1);
        due("34 by both, for less", proves(x, 16, 100, 200), 2);
        x.give(2, -1);
        due("34 too many", proves(x, 16, 102, 300, 0), Check.SIZE);
        due("34 too few", proves(x, 16, 102), Check.SIZE);
        x.sheet(0, 0, 0);
        due("34 missing", x.proves(0), Check.MISSING);
        due("34 no sheet", x.proves(4), Check.BEYOND);
        due("34 sheet below", x.proves(-1), Check.BEYOND);
    }

    private static void promise34GoesNowhere() {
        LoadBourse x = new LoadBourse();
        due("34 no lorries", proves(x, 8), -1);
        x.lorry(0, 0, 0, 40007, 1, 1);
        x.load(1, 0, 1, 1, 10);
        due("34 a lorry that can't come home", proves(x, 16, 0), -1);
        due("34 nor with a load", proves(x, 16, 100), 0);
        x.road(0, 7, 20);
        due("34 now it comes home", proves(x, 16, 0), -1);
        due("34 and is worth", x.best(), -20);
        x.road(0, 1, 5);
        x.road(7, 1, 5);
        due("34 a short way", proves(x, 16, 0), 1);
        due("34 with a load", proves(x, 16, 100), -1);
    }

    private static void promise35Sheet() {
        LoadBourse x = new LoadBourse();
        due("35 8 bits", x.sheet(0, 8, 20), 20);
        due("35 16 bits", x.sheet(1, 16, 1), 1);
        due("35 32 bits", x.sheet(3, 32, 0), 0);
        due("35 no number", x.put(3, 0, 0), Check.BEYOND);
        due("35 no sheet", x.sheet(4, 8, 1), Check.BEYOND);
        due("35 sheet below", x.sheet(-1, 8, 1), Check.BEYOND);
        int[] bits = {-8, -1, 1, 7, 9, 15, 24, 31, 33, 64};
        for (int b : bits) {
            due("35 bits " + b, x.sheet(0, b, 1), Check.BEYOND);
        }
        due("35 below 0", x.sheet(0, 8, -1), Check.SIZE);
        due("35 far below 0", x.sheet(0, 8, Integer.MIN_VALUE), Check.SIZE);
        due("35 above 20", x.sheet(0, 8, 21), Check.BEYOND);
        due("35 far above 20", x.sheet(0, 8, Integer.MAX_VALUE), Check.BEYOND);
        due("35 bits ahead of SIZE", x.sheet(0, 9, -1), Check.BEYOND);
        due("35 findings leave the sheet", x.put(0, 19, 1), 0);
        x.sheet(1, 8, 2);
        x.put(1, 0, 11);
        x.put(1, 1, 12);
        x.sheet(1, 8, 2);
        due("35 all 0", x.text(1), Check.BEYOND);
        due("35 missing again", x.sheet(1, 0, 0), 0);
        due("35 is missing", x.put(1, 0, 0), Check.MISSING);
        due("35 missing, whatever n", x.sheet(0, 0, 5), 0);
        due("35 is missing, too", x.put(0, 0, 0), Check.MISSING);
        due("35 no act that can be undone", x.undo(), Check.NONE);
    }

    private static int sign(LoadBourse x, int bits, int v) {
        x.sheet(0, bits, 1);
        x.put(0, 0, v);
        return x.text(0);
    }

    private static void promise36Put() {
        LoadBourse x = new LoadBourse();
        x.load(1, 0, 1, 1, 0);
        x.sheet(2, 8, 2);
        due("36 first", x.put(2, 0, 11), 0);
        due("36 last", x.put(2, 1, 12), 0);
        due("36 above", x.put(2, 2, 0), Check.BEYOND);
        due("36 below", x.put(2, -1, 0), Check.BEYOND);
        due("36 no sheet", x.put(4, 0, 0), Check.BEYOND);
        due("36 sheet below", x.put(-1, 0, 0), Check.BEYOND);
        due("36 missing", x.put(1, 9, 0), Check.MISSING);
        due("36 the lowest 8 bits", sign(x, 8, 256 + 49), 1);
        due("36 are 39", x.claim(0, 0, 0), 39);
        due("36 the lowest 8 bits of one below 0", sign(x, 8, 49 - 256), 1);
        due("36 not 8 of 16", sign(x, 16, 256 + 49), Check.BEYOND);
        due("36 the lowest 16 bits", sign(x, 16, 65536 + 48), 1);
        due("36 are 38", x.claim(0, 0, 0), 38);
        due("36 not 16 of 32", sign(x, 32, 65536 + 48), Check.BEYOND);
        due("36 all 32", sign(x, 32, 47), 1);
        due("36 only the load and four texts can be undone", x.undo(), 4);
        for (int v : Check.EXTREMES) {
            due("36 extreme place", x.put(2, v, 0), Check.BEYOND);
        }
    }

    /** The text that a sheet tells, as a sum by tens. */
    private static int told(LoadBourse x, int s) {
        int n = x.text(s);
        return n < 0 ? n : x.claim(0, 0, 0);
    }

    private static void promise37Copy() {
        LoadBourse x = new LoadBourse();
        x.load(1, 0, 1, 1, 0);
        x.sheet(0, 8, 5);
        int[] signs = {11, 20, 52, 12, 50};
        for (int i = 0; i < 5; i++) {
            x.put(0, i, signs[i]);
        }
        due("37 1 * 10 + 2", told(x, 0), 12);
        x.sheet(1, 8, 5);
        due("37 all", x.copy(0, 0, 1, 0, 5), 5);
        due("37 is the same", told(x, 1), 12);
        due("37 one, from one on", x.copy(0, 3, 1, 0, 1), 1);
        due("37 2 * 10 + 2", told(x, 1), 22);
        due("37 the sheet it came from stays", told(x, 0), 12);
        due("37 none", x.copy(0, 5, 1, 5, 0), 0);
        due("37 within one sheet, forward", x.copy(0, 0, 0, 1, 4), 4);
        x.put(0, 4, 50);
        // 11, 11, 20, 52, 50.
        due("37 1 + 1 * 10", told(x, 0), 11);
        due("37 within one sheet, back", x.copy(0, 1, 0, 0, 3), 3);
        x.put(0, 3, 13);
        // 11, 20, 52, 13, 50.
        due("37 1 * 10 + 3", told(x, 0), 13);
        due("37 no sheet", x.copy(4, 0, 0, 0, 1), Check.BEYOND);
        due("37 sheet below", x.copy(-1, 0, 0, 0, 1), Check.BEYOND);
        due("37 no other sheet", x.copy(0, 0, 4, 0, 1), Check.BEYOND);
        due("37 other sheet below", x.copy(0, 0, -1, 0, 1), Check.BEYOND);
        due("37 missing", x.copy(2, 0, 0, 0, 1), Check.MISSING);
        due("37 the other one is missing", x.copy(0, 0, 2, 0, 1), Check.MISSING);
        x.sheet(2, 16, 5);
        x.sheet(3, 32, 5);
        due("37 8 to 16", x.copy(0, 0, 2, 0, 1), Check.KIND);
        due("37 32 to 16", x.copy(3, 0, 2, 0, 1), Check.KIND);
        due("37 KIND ahead of BEYOND", x.copy(0, -1, 2, 0, 1), Check.KIND);
        due("37 BEYOND ahead of MISSING", x.copy(4, 0, 2, 0, 1), Check.BEYOND);
        due("37 too many", x.copy(0, 1, 1, 0, 5), Check.BEYOND);
        due("37 too many for the other one", x.copy(0, 0, 1, 1, 5), Check.BEYOND);
        due("37 from below", x.copy(0, -1, 1, 0, 1), Check.BEYOND);
        due("37 to below", x.copy(0, 0, 1, -1, 1), Check.BEYOND);
        due("37 n below", x.copy(0, 1, 1, 1, -1), Check.BEYOND);
        due("37 none from behind", x.copy(0, 6, 1, 0, 0), Check.BEYOND);
        due("37 a sum that wraps", x.copy(0, Integer.MAX_VALUE, 1, 0, 1), Check.BEYOND);
        due("37 another sum that wraps", x.copy(0, 1, 1, 1, Integer.MAX_VALUE), Check.BEYOND);
        due("37 and another one", x.copy(0, 0, 1, Integer.MAX_VALUE, 5), Check.BEYOND);
        due("37 findings change nothing", told(x, 0), 13);
    }

    private static void promise38EachAct() {
        LoadBourse x = new LoadBourse();
        due("38 nothing", x.undo(), Check.NONE);
        x.lorry(0, 0, 0, 40000, 20, 20);
        x.load(1, 0, 1, 1, 100);
        x.road(0, 1, 60);
        x.window(0, false, 5, 6);
        x.window(0, true, 7, 8);
        x.pay(0, 200);
        x.give(0, 0);
        x.paid(1, 2, 3);
        x.contract(0, 1, 2);
        x.report(0, 0, 9);
        x.trusts(5, true);
        x.trusts(5, false);
        x.owe(1, 2, 3);
        x.clear();
        x.sheet(0, 8, 1);
        x.put(0, 0, 12);
        x.text(0);
        due("38 text", x.undo(), 14);
        due("38 the text is empty again", x.claim(0, 0, 0), 0);
        due("38 clear", x.undo(), 13);
        due("38 it is owed again", x.net(2), 3);
        due("38 owe", x.undo(), 12);
        due("38 it is not owed", x.net(2), 0);
        due("38 failed", x.undo(), 11);
        due("38 one done", x.trust(5, false), 25);
        due("38 done", x.undo(), 10);
        due("38 none done", x.trust(5, false), 0);
        due("38 report", x.undo(), 9);
        due("38 no report", x.all(4), 0);
        due("38 contract", x.undo(), 8);
        due("38 no contract", x.all(3), 0);
        due("38 chain", x.chain(0, 1, true), 1);
        due("38 paid", x.undo(), 7);
        due("38 no price", x.all(2) + x.span(1, 2, 3), 0);
        due("38 give", x.undo(), 6);
        due("38 given to none", x.loadIs(0, 10), -1);
        due("38 no bits", x.lorryIs(0, 7), 0);
        due("38 pay", x.undo(), 5);
        due("38 pay as before", x.loadIs(0, 5), 100);
        due("38 window", x.undo(), 4);
        due("38 bring as before", x.loadIs(0, 8) + x.loadIs(0, 9), 4000);
        due("38 fetch as it was", x.loadIs(0, 6) + x.loadIs(0, 7), 11);
        due("38 the other window", x.undo(), 3);
        due("38 fetch as before", x.loadIs(0, 6) + x.loadIs(0, 7), 4000);
        due("38 best by now", x.best(), 40);
        due("38 road", x.undo(), 2);
        due("38 no road", x.far(0, 1), Check.NONE);
        due("38 best without the road", x.best(), 0);
        due("38 load", x.undo(), 1);
        due("38 no load", x.all(1), 0);
        due("38 lorry", x.undo(), 0);
        due("38 no lorry", x.all(0), 0);
        due("38 nothing more", x.undo(), Check.NONE);
        due("38 sheets stay", x.put(0, 0, 1), 0);
        due("38 a load as new", x.load(12, 0, 1, 1, 5) + x.loadIs(0, 9), 4000);
    }

    /** What stands beside it stays as it is. */
    private static void promise38OthersStay() {
        LoadBourse x = new LoadBourse();
        x.lorry(0, 0, 0, 0, 20, 20);
        x.load(12, 0, 3, 4, 5);
        x.load(34, 0, 6, 7, 8);
        x.pay(0, 50);
        x.window(1, false, 10, 20);
        x.pay(1, 80);
        x.give(0, 0);
        due("38 give", x.undo(), 6);
        due("38 pay of the second load", x.undo(), 5);
        int[] second = {3, 4, 0, 6, 7, 8, 10, 20, 0, 4000, -1};
        int[] first = {1, 2, 0, 3, 4, 50, 0, 4000, 0, 4000, -1};
        for (int what = 0; what < first.length; what++) {
            due("38 the first load's " + what, x.loadIs(0, what), first[what]);
            due("38 the second load's " + what, x.loadIs(1, what), second[what]);
        }
        LoadBourse y = new LoadBourse();
        y.trusts(1, true);
        y.road(0, 1, 5);
        y.owe(0, 1, 6);
        y.trusts(1, false);
        y.trusts(0, true);
        y.undo();
        due("38 trust of the next firm", y.trust(1, true), 80);
        y.road(0, 2, 7);
        y.owe(0, 2, 8);
        y.undo();
        y.undo();
        due("38 road of the next town", y.far(0, 1), 5);
        due("38 what the next firm is owed", y.net(1), 6);
        due("38 no more is owed", y.net(0), -6);
    }

    private static void promise38Sixteen() {
        LoadBourse x = new LoadBourse();
        for (int i = 1; i <= 20; i++) {
            x.road(0, 1, i);
        }
        x.road(0, 1, 20);
        x.road(0, 0, 1);
        x.far(0, 1);
        due("38 that changed nothing", x.undo(), 15);
        due("38 is as it was", x.far(0, 1), 20);
        for (int i = 14; i >= 0; i--) {
            due("38 more", x.undo(), i);
            due("38 minutes", x.far(0, 1), i + 5);
        }
        due("38 the latest 16 are kept", x.undo(), Check.NONE);
        due("38 the rest stays", x.far(0, 1), 5);
        x.road(0, 1, 9);
        due("38 goes on", x.undo(), 0);
        due("38 minutes again", x.far(0, 1), 5);
        for (int round = 0; round < 40; round++) {
            x.road(0, 1, 100 + round);
            x.road(0, 1, 200 + round);
            x.road(0, 1, 300 + round);
            x.undo();
            due("38 round " + round, x.undo(), Math.min(round + 1, 14));
            due("38 round's road", x.far(0, 1), 100 + round);
        }
    }

    private static void promise39All() {
        LoadBourse x = new LoadBourse();
        x.lorry(0, 0, 0, 0, 1, 1);
        x.load(1, 0, 1, 1, 0);
        x.load(1, 0, 1, 1, 0);
        for (int i = 0; i < 3; i++) {
            x.paid(1, 1, 1);
        }
        for (int i = 0; i < 4; i++) {
            x.contract(0, 1, 2);
        }
        for (int i = 0; i < 5; i++) {
            x.report(0, 0, 0);
        }
        for (int what = 0; what < 5; what++) {
            due("39 all " + what, x.all(what), what + 1);
        }
        due("39 no findings", x.all(5), 0);
        due("39 above", x.all(6), Check.BEYOND);
        due("39 it counts", x.all(5), 1);
        due("39 below", x.all(-1), Check.BEYOND);
        due("39 it counts, too", x.all(5), 2);
        x.undo();
        x.undo();
        due("39 it is not undone", x.all(5), 2);
        due("39 reports are", x.all(4), 3);
        due("39 -1 is no finding", x.loadIs(0, 10) + x.give(0, -1) + x.wrong(), -3);
        due("39 so it counts none", x.all(5), 2);
        due("39 what is asked counts, too", x.gets(0, 0), Check.NONE);
        due("39 three", x.all(5), 3);
        for (int v : Check.EXTREMES) {
            due("39 extreme what", x.all(v), Check.BEYOND);
        }
        due("39 these, too", x.all(5), 3 + Check.EXTREMES.length);
    }

    /** Each call's finding is counted once. */
    private static void promise39EachFinding() {
        LoadBourse x = new LoadBourse();
        int[] answers = {x.road(0, 0, 0), x.far(8, 0), x.far(0, 1), x.lorry(4, 0, 0, 0, 1, 1), x.as(0, 0), x.lorryIs(0, 0),
            x.load(0, 0, 1, 1, 0), x.load(8, 0, 1, 1, 0), x.window(0, true, 0, 0), x.loadIs(0, 0), x.pay(0, 0),
            x.give(0, -1), x.why(0, -1, -1), x.drive(0, -1, -1, 0), x.gets(0, 0), x.worth(0), x.paid(8, 0, 0),
            x.span(8, 0, 0), x.span(1, 0, 0), x.contract(0, 0, 1), x.chain(0, 0, true), x.doubles(0), x.report(0, 0, 0),
            x.cannot(0, false), x.trusts(10, true), x.trust(10, true), x.owe(0, 0, 0), x.net(10), x.clearing(-2),
            x.clearing(0), x.text(0), x.text(4), x.claim(0, 0, 0), x.proves(0), x.proves(4), x.sheet(4, 0, 0),
            x.sheet(0, 8, -1), x.put(0, 0, 0), x.copy(0, 0, 0, 0, 0), x.copy(4, 0, 0, 0, 0), x.undo(), x.all(6)};
        for (int i = 0; i < answers.length; i++) {
            CHECK.holds("39 answer " + i + " is a finding: " + answers[i], answers[i] < -99999);
        }
        due("39 as many", x.all(5), answers.length);
        x.lorry(0, 0, 0, 0, 1, 1);
        x.load(1, 1, 1, 1, 0);
        x.sheet(0, 8, 15);
        int[] more = {x.as(0, 1), x.give(0, 0), x.why(0, 0, -1), x.drive(0, 0, -1, 0), x.drive(0, -1, -1, 6),
            x.gets(0, 1), x.contract(0, 1, 1), x.cannot(0, true), x.text(0), x.proves(0), x.put(0, 15, 0)};
        for (int i = 0; i < more.length; i++) {
            CHECK.holds("39 answer " + i + " is a finding, too: " + more[i], more[i] < -99999);
        }
        due("39 as many more", x.all(5), answers.length + more.length);
    }

    public static void main(String[] args) {
        promise34Proves();
        promise34GoesNowhere();
        promise35Sheet();
        promise36Put();
        promise37Copy();
        promise38EachAct();
        promise38OthersStay();
        promise38Sixteen();
        promise39All();
        promise39EachFinding();
        CHECK.end();
    }
}
