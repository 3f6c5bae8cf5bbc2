import java.util.ArrayList;
import java.util.HashMap;
import java.util.List;
import java.util.Map;

/** One call on a bourse in a known state: what it answers, what it counts, and what it leaves behind. */
final class Edge {
    interface Stock {
        LoadBourse made();
    }

    interface Call {
        int on(LoadBourse x);
    }

    /** A call with its arguments as a row. */
    interface Calls {
        int on(LoadBourse x, int[] a);
    }

    static final Stock FRESH = Stocks::fresh;
    static final Stock SOME = Stocks::some;
    static final Stock FULL = Stocks::full;
    static final Stock JUDGED = Stocks::judged;
    static final Stock OWING = Stocks::owing;

    private static final List<Questions.Part> BOURSE = Questions.ofTheBourse();
    private static final List<Questions.Part> SHEETS = Questions.ofTheSheets();
    private static final List<Questions.Part> DONE = Questions.ofWhatWasDone();

    private final Check check;
    private final Map<Stock, Map<Questions.Part, List<Integer>>> known = new HashMap<>();

    Edge(Check check) {
        this.check = check;
    }

    /** The call answers this finding; it is counted once, and nothing else has changed. */
    void refused(String name, Stock stock, int finding, Call call) {
        answers(name, stock, finding, 1, call);
        isAsBefore(name, stock, call, List.of(BOURSE, SHEETS, DONE));
    }

    /** The call answers this, which is no finding, and nothing has changed. */
    void asked(String name, Stock stock, int want, Call call) {
        answers(name, stock, want, 0, call);
        isAsBefore(name, stock, call, List.of(BOURSE, SHEETS, DONE));
    }

    /** The act answers this, which is no finding; then the question is answered so; and undo takes all of it back. */
    void taken(String name, Stock stock, int want, Call call, int then, Call question) {
        LoadBourse x = answers(name, stock, want, 0, call);
        check.due(name + ", then", question.on(x), then);
        Call andBack = y -> {
            call.on(y);
            return y.undo();
        };
        isAsBefore(name + ", undone", stock, andBack, List.of(BOURSE, SHEETS));
    }

    /** The call changes a sheet, and neither the bourse nor what can be undone; then the question is answered so. */
    void written(String name, Stock stock, int want, Call call, int then, Call question) {
        LoadBourse x = answers(name, stock, want, 0, call);
        check.due(name + ", then", question.on(x), then);
        isAsBefore(name, stock, call, List.of(BOURSE, DONE));
    }

    private LoadBourse answers(String name, Stock stock, int want, int findings, Call call) {
        LoadBourse x = stock.made();
        int before = x.all(5);
        check.due(name, call.on(x), want);
        check.due(name + ": findings counted", x.all(5) - before, findings);
        return x;
    }

    private void isAsBefore(String name, Stock stock, Call call, List<List<Questions.Part>> groups) {
        Map<Questions.Part, List<Integer>> before = known.computeIfAbsent(stock, s -> new HashMap<>());
        for (List<Questions.Part> group : groups) {
            for (Questions.Part part : group) {
                List<Integer> was = before.computeIfAbsent(part, p -> answersOf(stock, x -> 0, p));
                check.holds(name + ": something has changed", answersOf(stock, call, part).equals(was));
            }
        }
    }

    private static List<Integer> answersOf(Stock stock, Call call, Questions.Part part) {
        LoadBourse x = stock.made();
        call.on(x);
        List<Integer> answers = new ArrayList<>();
        part.ask(x, answers);
        return answers;
    }

    /**
     * Of each argument the least and the greatest are no finding, and what is below and above them is BEYOND.
     * An argument whose range is null is left as it is.
     */
    void ends(String name, Stock stock, int[] usual, int[][] ranges, Calls call) {
        for (int i = 0; i < usual.length; i++) {
            if (ranges[i] == null) {
                continue;
            }
            int least = ranges[i][0];
            int most = ranges[i][1];
            for (int v : new int[] {least, most}) {
                int answer = call.on(stock.made(), with(usual, i, v));
                check.holds(name + ": argument " + i + " may be " + v + ", but answered " + answer, answer > -100000);
            }
            for (int v : new int[] {least - 1, most + 1, Integer.MIN_VALUE, Integer.MAX_VALUE}) {
                int[] a = with(usual, i, v);
                refused(name + ": argument " + i + " is " + v, stock, Check.BEYOND, x -> call.on(x, a));
            }
        }
    }

    /** Each argument below and above its range is BEYOND, whatever else the call would tell. */
    void beyondFirst(String name, Stock stock, int[] usual, int[][] ranges, int otherwise, Calls call) {
        refused(name + ": the other finding", stock, otherwise, x -> call.on(x, usual));
        for (int i = 0; i < usual.length; i++) {
            if (ranges[i] != null) {
                for (int v : new int[] {ranges[i][0] - 1, ranges[i][1] + 1}) {
                    int[] a = with(usual, i, v);
                    refused(name + ": BEYOND first, argument " + i + " is " + v, stock, Check.BEYOND,
                        x -> call.on(x, a));
                }
            }
        }
    }

    private static int[] with(int[] usual, int i, int v) {
        int[] a = usual.clone();
        a[i] = v;
        return a;
    }
}
