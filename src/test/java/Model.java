import java.util.ArrayDeque;
import java.util.ArrayList;
import java.util.Arrays;
import java.util.Collections;
import java.util.HashMap;
import java.util.HashSet;
import java.util.List;
import java.util.Map;
import java.util.Set;
import java.util.TreeSet;

/**
 * The document once more, in its plainest form: lorries are driven minute by minute, undo keeps
 * whole copies, and ways are looked for by trying. RandomRunsTest holds the class against it.
 */
final class Model {
    private static final int BEYOND = Check.BEYOND;
    private static final int MISSING = Check.MISSING;
    private static final int SIZE = Check.SIZE;
    private static final int KIND = Check.KIND;
    private static final int FULL = Check.FULL;
    private static final int NONE = Check.NONE;
    private static final int BARRED = Check.BARRED;

    private static final class State {
        int[][] roads = new int[8][8];
        List<int[]> lorries = new ArrayList<>();
        List<int[]> loads = new ArrayList<>();
        List<int[]> prices = new ArrayList<>();
        List<int[]> contracts = new ArrayList<>();
        List<int[]> reports = new ArrayList<>();
        int[][] trust = new int[10][2];
        int[][] owed = new int[10][10];
        List<Integer> text = new ArrayList<>();

        State copied() {
            State s = new State();
            s.roads = copiedRows(roads);
            s.lorries = copiedList(lorries);
            s.loads = copiedList(loads);
            s.prices = copiedList(prices);
            s.contracts = copiedList(contracts);
            s.reports = copiedList(reports);
            s.trust = copiedRows(trust);
            s.owed = copiedRows(owed);
            s.text = new ArrayList<>(text);
            return s;
        }

        private static int[][] copiedRows(int[][] rows) {
            int[][] to = new int[rows.length][];
            for (int i = 0; i < rows.length; i++) {
                to[i] = rows[i].clone();
            }
            return to;
        }

        private static List<int[]> copiedList(List<int[]> rows) {
            List<int[]> to = new ArrayList<>();
            for (int[] row : rows) {
                to.add(row.clone());
            }
            return to;
        }
    }

    /** What a drive came to. */
    private static final class Trip {
        int why;
        int minute;
        int since;
        int driven;
        int empty;
        int rests;
        int waited;
        int pay;
        int town;
    }

    private static final class Plan {
        final int value;
        final List<List<Integer>> rows;

        Plan(int value, List<List<Integer>> rows) {
            this.value = value;
            this.rows = rows;
        }
    }

    private State now = new State();
    private final ArrayDeque<State> before = new ArrayDeque<>();
    private final Object[] sheets = new Object[4];
    private int findings;
    private Plan plan;

    private int says(int answer) {
        if (answer < -99999) {
            findings++;
        }
        return answer;
    }

    private void act() {
        before.addLast(now.copied());
        if (before.size() > 16) {
            before.removeFirst();
        }
        plan = null;
    }

    private static boolean in(int v, int a, int b) {
        return a <= v && v <= b;
    }

    private boolean noLorry(int lorry) {
        return !in(lorry, 0, now.lorries.size() - 1);
    }

    private boolean noLoad(int load) {
        return !in(load, 0, now.loads.size() - 1);
    }

    private static boolean noLane(int lane) {
        for (int a = 0; a < 8; a++) {
            for (int b = 0; b < 8; b++) {
                if (lane == 10 * a + b) {
                    return false;
                }
            }
        }
        return true;
    }

    int road(int a, int b, int minutes) {
        if (!in(a, 0, 7) || !in(b, 0, 7) || a == b || !in(minutes, 0, 400)) {
            return says(BEYOND);
        }
        act();
        int old = now.roads[a][b];
        now.roads[a][b] = minutes;
        now.roads[b][a] = minutes;
        return old;
    }

    /** The nearest town that isn't settled yet is settled, as long as there is one; -1 if b never is. */
    private int way(int a, int b) {
        Map<Integer, Integer> settled = new HashMap<>();
        Map<Integer, Integer> open = new HashMap<>();
        open.put(a, 0);
        while (!open.isEmpty()) {
            int next = Collections.min(open.entrySet(), Map.Entry.comparingByValue()).getKey();
            int minutes = open.remove(next);
            settled.put(next, minutes);
            for (int t = 0; t < 8; t++) {
                if (now.roads[next][t] > 0 && !settled.containsKey(t)) {
                    open.merge(t, minutes + now.roads[next][t], Math::min);
                }
            }
        }
        return settled.getOrDefault(b, -1);
    }

    int far(int a, int b) {
        if (!in(a, 0, 7) || !in(b, 0, 7)) {
            return says(BEYOND);
        }
        int minutes = way(a, b);
        return says(minutes < 0 ? NONE : minutes);
    }

    int lorry(int kind, int town, int minute, int homeBy, int room, int limit) {
        if (!in(kind, 0, 3) || !in(town, 0, 7) || !in(minute, 0, 2000) || homeBy < 0 || homeBy > 40007
            || homeBy % 10 > 7 || !in(room, 1, 40) || !in(limit, 1, 40)) {
            return says(BEYOND);
        }
        if (now.lorries.size() == 6) {
            return says(FULL);
        }
        act();
        now.lorries.add(new int[] {kind, town, minute, homeBy % 10, homeBy / 10, kind == 2 ? room / 2 : room, limit});
        return now.lorries.size() - 1;
    }

    int as(int lorry, int kind) {
        if (noLorry(lorry) || !in(kind, 0, 3)) {
            return says(BEYOND);
        }
        return says(kind == 0 || now.lorries.get(lorry)[0] == kind ? lorry : KIND);
    }

    int lorryIs(int lorry, int what) {
        if (noLorry(lorry) || !in(what, 0, 7)) {
            return says(BEYOND);
        }
        if (what < 7) {
            return now.lorries.get(lorry)[what];
        }
        int bits = 0;
        for (int i = 0; i < now.loads.size(); i++) {
            bits += now.loads.get(i)[10] == lorry ? 1 << i : 0;
        }
        return bits;
    }

    int load(int way, int sort, int room, int tons, int pay) {
        if (noLane(way) || !in(sort, 0, 2) || !in(room, 1, 40) || !in(tons, 1, 40) || !in(pay, 0, 9999)) {
            return says(BEYOND);
        }
        if (way % 11 == 0) {
            return says(SIZE);
        }
        if (now.loads.size() == 8) {
            return says(FULL);
        }
        act();
        now.loads.add(new int[] {way / 10, way % 10, sort, room, tons, pay, 0, 4000, 0, 4000, -1});
        return now.loads.size() - 1;
    }

    int window(int load, boolean bring, int from, int to) {
        if (noLoad(load) || !in(from, 0, 4000) || !in(to, 0, 4000)) {
            return says(BEYOND);
        }
        if (from > to) {
            return says(SIZE);
        }
        act();
        now.loads.get(load)[bring ? 8 : 6] = from;
        now.loads.get(load)[bring ? 9 : 7] = to;
        return 1;
    }

    int loadIs(int load, int what) {
        return says(noLoad(load) || !in(what, 0, 10) ? BEYOND : now.loads.get(load)[what]);
    }

    int pay(int load, int v) {
        if (noLoad(load) || !in(v, 0, 9999)) {
            return says(BEYOND);
        }
        act();
        int old = now.loads.get(load)[5];
        now.loads.get(load)[5] = v;
        return old;
    }

    private boolean fits(int lorry, int load) {
        int[] a = now.lorries.get(lorry);
        int[] b = now.loads.get(load);
        boolean kind = b[2] == 0 && a[0] != 3 || b[2] == 1 && a[0] == 1 || b[2] == 2 && a[0] == 3;
        return kind && a[5] >= b[3] && a[6] >= b[4];
    }

    int give(int load, int lorry) {
        if (noLoad(load) || lorry != -1 && noLorry(lorry)) {
            return says(BEYOND);
        }
        if (lorry != -1 && !fits(lorry, load)) {
            return says(KIND);
        }
        act();
        int old = now.loads.get(load)[10];
        now.loads.get(load)[10] = lorry;
        return old;
    }

    private Trip trip(int lorry, List<Integer> row) {
        int[] a = now.lorries.get(lorry);
        Trip t = new Trip();
        t.town = a[1];
        t.minute = a[2];
        for (int load : row) {
            int[] b = now.loads.get(load);
            t.pay += b[5];
            if (!goes(t, b[0], true) || !docks(t, b[6], b[7]) || !goes(t, b[1], false) || !docks(t, b[8], b[9])) {
                return t;
            }
        }
        if (goes(t, a[3], true) && t.minute > a[4]) {
            t.why = 4;
        }
        return t;
    }

    private boolean goes(Trip t, int to, boolean empty) {
        int minutes = way(t.town, to);
        if (minutes < 0 || t.driven + minutes > 540) {
            t.why = minutes < 0 ? 1 : 2;
            return false;
        }
        for (int m = 0; m < minutes; m++) {
            if (t.since == 270) {
                t.minute += 45;
                t.rests++;
                t.since = 0;
            }
            t.minute++;
            t.since++;
            t.driven++;
            t.empty += empty ? 1 : 0;
        }
        t.town = to;
        return true;
    }

    private static boolean docks(Trip t, int from, int to) {
        if (t.minute > to) {
            t.why = 3;
            return false;
        }
        int waits = 0;
        while (t.minute < from) {
            t.minute++;
            waits++;
        }
        t.waited += waits;
        t.since = waits >= 45 ? 0 : t.since;
        t.minute += 30;
        return true;
    }

    private static List<Integer> row(int one, int two) {
        List<Integer> row = new ArrayList<>();
        if (one >= 0) {
            row.add(one);
        }
        if (two >= 0) {
            row.add(two);
        }
        return row;
    }

    int asked(int lorry, int one, int two) {
        if (noLorry(lorry) || one != -1 && noLoad(one) || two != -1 && noLoad(two)
            || one == two && one != -1 || one == -1 && two != -1) {
            return BEYOND;
        }
        for (int load : row(one, two)) {
            if (!fits(lorry, load)) {
                return KIND;
            }
        }
        return 0;
    }

    int why(int lorry, int one, int two) {
        int finding = asked(lorry, one, two);
        return says(finding != 0 ? finding : trip(lorry, row(one, two)).why);
    }

    int drive(int lorry, int one, int two, int what) {
        int finding = asked(lorry, one, two);
        if (finding != 0) {
            return says(finding);
        }
        if (!in(what, 0, 5)) {
            return says(BEYOND);
        }
        Trip t = trip(lorry, row(one, two));
        int[] tells = {t.minute, t.driven, t.empty, t.rests, t.pay - t.empty, t.waited};
        return says(t.why != 0 ? NONE : tells[what]);
    }

    /** None first, then by the first load, one alone ahead of two, then by the second one. */
    private static int compare(List<List<Integer>> a, List<List<Integer>> b) {
        for (int i = 0; i < a.size(); i++) {
            for (int j = 0; j < 2; j++) {
                int x = j < a.get(i).size() ? a.get(i).get(j) : -1;
                int y = j < b.get(i).size() ? b.get(i).get(j) : -1;
                if (x != y) {
                    return Integer.compare(x, y);
                }
            }
        }
        return 0;
    }

    private Map<List<Integer>, Integer> rightRows(int lorry) {
        Map<List<Integer>, Integer> rows = new HashMap<>();
        rows.put(row(-1, -1), 0);
        for (int one = -1; one < now.loads.size(); one++) {
            for (int two = -1; two < now.loads.size(); two++) {
                if (asked(lorry, one, two) == 0) {
                    Trip t = trip(lorry, row(one, two));
                    if (t.why == 0) {
                        rows.put(row(one, two), t.pay - t.empty);
                    }
                }
            }
        }
        return rows;
    }

    private Plan planned(int without) {
        Set<Integer> left = new TreeSet<>();
        for (int i = 0; i < now.loads.size(); i++) {
            if (now.loads.get(i)[10] == -1 && i != without) {
                left.add(i);
            }
        }
        List<Map<List<Integer>, Integer>> rows = new ArrayList<>();
        for (int i = 0; i < now.lorries.size(); i++) {
            rows.add(rightRows(i));
        }
        return planned(rows, 0, left, new HashMap<>());
    }

    private Plan planned(List<Map<List<Integer>, Integer>> rows, int lorry, Set<Integer> left, Map<String, Plan> known) {
        if (lorry == rows.size()) {
            return new Plan(0, new ArrayList<>());
        }
        String key = lorry + ":" + left;
        Plan best = known.get(key);
        if (best != null) {
            return best;
        }
        for (Map.Entry<List<Integer>, Integer> e : rows.get(lorry).entrySet()) {
            if (left.containsAll(e.getKey())) {
                Set<Integer> rest = new TreeSet<>(left);
                rest.removeAll(e.getKey());
                Plan behind = planned(rows, lorry + 1, rest, known);
                int value = e.getValue() + behind.value;
                List<List<Integer>> all = new ArrayList<>();
                all.add(e.getKey());
                all.addAll(behind.rows);
                if (best == null || value > best.value || value == best.value && compare(all, best.rows) < 0) {
                    best = new Plan(value, all);
                }
            }
        }
        known.put(key, best);
        return best;
    }

    private Plan plan() {
        if (plan == null) {
            plan = planned(-1);
        }
        return plan;
    }

    int best() {
        return plan().value;
    }

    int gets(int lorry, int i) {
        if (noLorry(lorry) || !in(i, 0, 1)) {
            return says(BEYOND);
        }
        List<Integer> row = plan().rows.get(lorry);
        return says(i < row.size() ? row.get(i) : NONE);
    }

    int empty(boolean without) {
        int sum = 0;
        for (int i = 0; i < now.lorries.size(); i++) {
            Trip t = trip(i, without ? row(-1, -1) : plan().rows.get(i));
            sum += t.why == 0 ? t.empty : 0;
        }
        return sum;
    }

    int worth(int load) {
        return says(noLoad(load) ? BEYOND : plan().value - planned(load).value);
    }

    int paid(int lane, int day, int price) {
        if (noLane(lane) || !in(day, 0, 365) || !in(price, 0, 9999)) {
            return says(BEYOND);
        }
        if (now.prices.size() == 40) {
            return says(FULL);
        }
        act();
        now.prices.add(new int[] {lane, day, price});
        return now.prices.size();
    }

    int span(int lane, int day, int what) {
        if (noLane(lane) || !in(day, 0, 365) || !in(what, 0, 3)) {
            return says(BEYOND);
        }
        List<Integer> sorted = new ArrayList<>();
        for (int[] p : now.prices) {
            if (p[0] == lane && in(p[1], day - 29, day)) {
                sorted.add(p[2]);
            }
        }
        Collections.sort(sorted);
        int n = sorted.size();
        if (what == 3) {
            return n;
        }
        return says(n == 0 ? NONE : sorted.get(new int[] {n / 4, (n - 1) / 2, n - 1 - n / 4}[what]));
    }

    int contract(int load, int by, int to) {
        if (noLoad(load) || !in(by, 0, 9) || !in(to, 0, 9)) {
            return says(BEYOND);
        }
        if (by == to) {
            return says(SIZE);
        }
        if (now.contracts.size() == 20) {
            return says(FULL);
        }
        act();
        now.contracts.add(new int[] {load, by, to});
        return now.contracts.size() - 1;
    }

    private List<Integer> chained(int load, int firm) {
        List<int[]> left = new ArrayList<>(now.contracts);
        List<Integer> passed = new ArrayList<>();
        passed.add(firm);
        boolean goesOn = true;
        while (goesOn) {
            goesOn = false;
            for (int[] c : left) {
                if (c[0] == load && c[1] == passed.get(passed.size() - 1)) {
                    passed.add(c[2]);
                    left.remove(c);
                    goesOn = true;
                    break;
                }
            }
        }
        return passed;
    }

    int chain(int load, int firm, boolean end) {
        if (noLoad(load) || !in(firm, 0, 9)) {
            return says(BEYOND);
        }
        List<Integer> passed = chained(load, firm);
        return end ? passed.get(passed.size() - 1) : passed.size() - 1;
    }

    int doubles(int load) {
        if (noLoad(load)) {
            return says(BEYOND);
        }
        int n = 0;
        for (int firm = 0; firm < 10; firm++) {
            Set<Integer> to = new HashSet<>();
            for (int[] c : now.contracts) {
                if (c[0] == load && c[1] == firm) {
                    to.add(c[2]);
                }
            }
            n += to.size() >= 2 ? 1 : 0;
        }
        return n;
    }

    int report(int lorry, int town, int minute) {
        if (noLorry(lorry) || !in(town, 0, 7) || !in(minute, 0, 4000)) {
            return says(BEYOND);
        }
        if (now.reports.size() == 30) {
            return says(FULL);
        }
        act();
        now.reports.add(new int[] {lorry, town, minute});
        return now.reports.size() - 1;
    }

    int cannot(int lorry, boolean first) {
        if (noLorry(lorry)) {
            return says(BEYOND);
        }
        TreeSet<Integer> pairs = new TreeSet<>();
        for (int i = 0; i < now.reports.size(); i++) {
            for (int j = 0; j < i; j++) {
                int[] a = now.reports.get(i);
                int[] b = now.reports.get(j);
                int minutes = way(a[1], b[1]);
                if (a[0] == lorry && b[0] == lorry && (minutes < 0 || minutes > Math.abs(a[2] - b[2]))) {
                    pairs.add(100 * j + i);
                }
            }
        }
        if (!first) {
            return pairs.size();
        }
        return says(pairs.isEmpty() ? NONE : pairs.first());
    }

    int trusts(int firm, boolean done) {
        if (!in(firm, 0, 9)) {
            return says(BEYOND);
        }
        if (now.trust[firm][0] + now.trust[firm][1] == 200) {
            return says(FULL);
        }
        act();
        now.trust[firm][done ? 0 : 1]++;
        return now.trust[firm][0] + now.trust[firm][1];
    }

    private int trusted(int firm, int more) {
        return 100 * (now.trust[firm][0] + more) / (now.trust[firm][0] + now.trust[firm][1] + 3);
    }

    int trust(int firm, boolean greatest) {
        return says(!in(firm, 0, 9) ? BEYOND : trusted(firm, greatest ? 3 : 0));
    }

    int owe(int firm, int to, int n) {
        if (!in(firm, 0, 9) || !in(to, 0, 9) || !in(n, -99, 99)) {
            return says(BEYOND);
        }
        if (firm == to) {
            return says(SIZE);
        }
        if (Math.abs(now.owed[firm][to] + n) > 9999) {
            return says(FULL);
        }
        act();
        now.owed[firm][to] += n;
        return now.owed[firm][to];
    }

    private int[] nets() {
        int[] nets = new int[10];
        for (int a = 0; a < 10; a++) {
            for (int b = 0; b < 10; b++) {
                nets[a] -= now.owed[a][b];
                nets[b] += now.owed[a][b];
            }
        }
        return nets;
    }

    int net(int firm) {
        return says(!in(firm, 0, 9) ? BEYOND : nets()[firm]);
    }

    private List<Integer> payments() {
        int[] nets = nets();
        List<Integer> payments = new ArrayList<>();
        while (true) {
            int most = Arrays.stream(nets).max().getAsInt();
            int least = Arrays.stream(nets).min().getAsInt();
            if (most <= 0 || least >= 0) {
                return payments;
            }
            int to = 0;
            while (nets[to] != most) {
                to++;
            }
            int from = 0;
            while (nets[from] != least) {
                from++;
            }
            int n = Math.min(most, -least);
            nets[to] -= n;
            nets[from] += n;
            payments.add(1000000 * from + 100000 * to + n);
        }
    }

    int clearing(int i) {
        if (i < -1) {
            return says(BEYOND);
        }
        List<Integer> payments = payments();
        if (i == -1) {
            return payments.size();
        }
        return says(i < payments.size() ? payments.get(i) : NONE);
    }

    int clear() {
        int n = payments().size();
        act();
        now.owed = new int[10][10];
        return n;
    }

    private static int length(Object sheet) {
        return java.lang.reflect.Array.getLength(sheet);
    }

    private static int number(Object sheet, int i) {
        return java.lang.reflect.Array.getInt(sheet, i);
    }

    int text(int s) {
        if (!in(s, 0, 3)) {
            return says(BEYOND);
        }
        if (sheets[s] == null) {
            return says(MISSING);
        }
        if (length(sheets[s]) > 14) {
            return says(SIZE);
        }
        List<Integer> text = new ArrayList<>();
        for (int i = 0; i < length(sheets[s]); i++) {
            int sign = number(sheets[s], i);
            if (!in(sign, 1, 6) && !in(sign, 10, 49) && !in(sign, 50, 56)) {
                return says(BEYOND);
            }
            text.add(sign);
        }
        act();
        now.text = text;
        return text.size();
    }

    int wrong() {
        int depth = 0;
        for (int i = 0; i < now.text.size(); i++) {
            if (now.text.get(i) < 50) {
                depth++;
                if (depth > 5) {
                    return i;
                }
            } else {
                if (depth < 2) {
                    return i;
                }
                depth--;
            }
        }
        return now.text.isEmpty() || depth == 1 ? -1 : now.text.size();
    }

    int claim(int load, int late, int firm) {
        if (noLoad(load) || !in(late, 0, 4000) || !in(firm, 0, 9)) {
            return says(BEYOND);
        }
        if (wrong() != -1) {
            return says(BARRED);
        }
        int[] b = now.loads.get(load);
        int contracts = 0;
        for (int[] c : now.contracts) {
            contracts += c[0] == load ? 1 : 0;
        }
        List<Integer> passed = chained(load, firm);
        int[] facts = {0, b[5], late, b[4], b[2], contracts, trusted(passed.get(passed.size() - 1), 0)};
        ArrayDeque<Integer> stack = new ArrayDeque<>();
        for (int sign : now.text) {
            if (sign < 10) {
                stack.push(facts[sign]);
            } else if (sign < 50) {
                stack.push(sign - 10);
            } else {
                int y = stack.pop();
                int x = stack.pop();
                stack.push(joined(sign, x, y));
            }
        }
        return stack.isEmpty() ? 0 : Math.max(-99999, stack.pop());
    }

    private static int joined(int sign, int x, int y) {
        switch (sign) {
            case 50: return x + y;
            case 51: return x - y;
            case 52: return x * y;
            case 53: return y == 0 ? 0 : x / y;
            case 54: return x < y ? x : y;
            case 55: return x > y ? x : y;
            default: return x < y ? 1 : 0;
        }
    }

    int proves(int s) {
        if (!in(s, 0, 3)) {
            return says(BEYOND);
        }
        if (sheets[s] == null) {
            return says(MISSING);
        }
        int n = now.lorries.size();
        if (length(sheets[s]) != n) {
            return says(SIZE);
        }
        Set<Integer> there = new HashSet<>();
        int sum = 0;
        for (int i = 0; i < n; i++) {
            List<Integer> row = told(number(sheets[s], i));
            if (row == null) {
                return i;
            }
            for (int load : row) {
                if (now.loads.get(load)[10] != -1 || !there.add(load) || !fits(i, load)) {
                    return i;
                }
            }
            Trip t = trip(i, row);
            if (t.why != 0 && !row.isEmpty()) {
                return i;
            }
            sum += t.why == 0 ? t.pay - t.empty : 0;
        }
        return sum == best() ? -1 : n;
    }

    /** The row that a number tells, or null. */
    private List<Integer> told(int v) {
        for (int one = -1; one < now.loads.size(); one++) {
            for (int two = -1; two < now.loads.size(); two++) {
                if (v == 100 * (one + 1) + two + 1) {
                    return one == -1 && two != -1 ? null : row(one, two);
                }
            }
        }
        return null;
    }

    int sheet(int s, int bits, int n) {
        if (!in(s, 0, 3) || bits != 0 && bits != 8 && bits != 16 && bits != 32) {
            return says(BEYOND);
        }
        if (n < 0) {
            return says(SIZE);
        }
        if (n > 20) {
            return says(BEYOND);
        }
        sheets[s] = bits == 0 ? null : bits == 8 ? new byte[n] : bits == 16 ? new short[n] : new int[n];
        return bits == 0 ? 0 : n;
    }

    int put(int s, int i, int v) {
        if (!in(s, 0, 3)) {
            return says(BEYOND);
        }
        if (sheets[s] == null) {
            return says(MISSING);
        }
        if (!in(i, 0, length(sheets[s]) - 1)) {
            return says(BEYOND);
        }
        if (sheets[s] instanceof byte[] bytes) {
            bytes[i] = (byte) v;
        } else if (sheets[s] instanceof short[] shorts) {
            shorts[i] = (short) v;
        } else if (sheets[s] instanceof int[] ints) {
            ints[i] = v;
        }
        return 0;
    }

    int copy(int s, int from, int t, int to, int n) {
        if (!in(s, 0, 3) || !in(t, 0, 3)) {
            return says(BEYOND);
        }
        if (sheets[s] == null || sheets[t] == null) {
            return says(MISSING);
        }
        if (sheets[s].getClass() != sheets[t].getClass()) {
            return says(KIND);
        }
        if (from < 0 || to < 0 || n < 0 || (long) from + n > length(sheets[s]) || (long) to + n > length(sheets[t])) {
            return says(BEYOND);
        }
        System.arraycopy(sheets[s], from, sheets[t], to, n);
        return n;
    }

    int undo() {
        if (before.isEmpty()) {
            return says(NONE);
        }
        now = before.removeLast();
        plan = null;
        return before.size();
    }

    int all(int what) {
        switch (what) {
            case 0: return now.lorries.size();
            case 1: return now.loads.size();
            case 2: return now.prices.size();
            case 3: return now.contracts.size();
            case 4: return now.reports.size();
            case 5: return findings;
            default: return says(BEYOND);
        }
    }
}
