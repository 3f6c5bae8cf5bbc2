import java.util.Arrays;

/**
 * A bourse for lorries that go home empty: what its calls do is promised in DOC.md.
 * The public methods look at their arguments and count the findings; the classes inside do the work.
 */
public final class LoadBourse {
    private static final int BEYOND = -100001;
    private static final int MISSING = -100002;
    private static final int SIZE = -100003;
    private static final int KIND = -100004;
    private static final int FULL = -100005;
    private static final int NONE = -100006;
    private static final int BARRED = -100008;
    private static final int LEAST_ANSWER = -99999;

    private static final int NO_FINDING = 0;
    private static final int NO_LOAD = -1;
    private static final int NO_LORRY = -1;
    private static final int ALL_RIGHT = -1;

    private static final int TOWNS = 8;
    private static final int FIRMS = 10;
    private static final int LONGEST_ROAD = 400;
    private static final int LATEST_START = 2000;
    private static final int LATEST_MINUTE = 4000;
    private static final int MOST_ROOM = 40;
    private static final int MOST_MONEY = 9999;
    private static final int LAST_DAY = 365;
    private static final int MOST_OWED_AT_ONCE = 99;
    private static final int MOST_LORRIES = 6;
    private static final int MOST_LOADS = 8;
    private static final int SHEETS = 4;
    private static final int MOST_NUMBERS = 20;

    /** The kinds of lorries; COLD, SMALL and TANK are all under LORRY. */
    private static final int LORRY = 0;
    private static final int COLD = 1;
    private static final int SMALL = 2;
    private static final int TANK = 3;

    private static final int DRY_SORT = 0;
    private static final int COLD_SORT = 1;
    private static final int DANGEROUS_SORT = 2;

    /** The columns of the table of lorries are numbered as lorryIs() numbers what it tells. */
    private static final int LORRY_KIND = 0;
    private static final int LORRY_TOWN = 1;
    private static final int LORRY_MINUTE = 2;
    private static final int LORRY_HOME = 3;
    private static final int LORRY_HOME_BY = 4;
    private static final int LORRY_ROOM = 5;
    private static final int LORRY_LIMIT = 6;
    private static final int LORRY_COLUMNS = 7;

    /** The columns of the table of loads are numbered as loadIs() numbers what it tells. */
    private static final int LOAD_FROM = 0;
    private static final int LOAD_TO = 1;
    private static final int LOAD_SORT = 2;
    private static final int LOAD_ROOM = 3;
    private static final int LOAD_TONS = 4;
    private static final int LOAD_PAY = 5;
    private static final int LOAD_FETCH = 6;
    private static final int LOAD_BRING = 8;
    private static final int LOAD_GIVEN = 10;
    private static final int LOAD_COLUMNS = 11;

    private final Journal journal;
    private final Towns towns;
    private final Table lorries;
    private final Table loads;
    private final Drive driving;
    private final Giving giving;
    private final Prices prices;
    private final Firms firms;
    private final Reports reports;
    private final Pallets pallets;
    private final Terms terms;
    private final Sheet[] sheets;
    private int findings;

    public LoadBourse() {
        journal = new Journal();
        towns = new Towns(journal);
        lorries = new Table(journal, LORRY_COLUMNS, MOST_LORRIES);
        loads = new Table(journal, LOAD_COLUMNS, MOST_LOADS);
        driving = new Drive(towns, lorries, loads);
        giving = new Giving(journal, lorries, loads, driving);
        prices = new Prices(journal);
        firms = new Firms(journal);
        reports = new Reports(journal, towns);
        pallets = new Pallets(journal);
        terms = new Terms(journal);
        sheets = new Sheet[SHEETS];
        for (int s = 0; s < SHEETS; s++) {
            sheets[s] = new Sheet();
        }
    }

    // ---- towns, lorries, loads

    public int road(int a, int b, int minutes) {
        if (!isTown(a) || !isTown(b) || a == b || !within(minutes, 0, LONGEST_ROAD)) {
            return told(BEYOND);
        }
        return towns.join(a, b, minutes);
    }

    public int far(int a, int b) {
        if (!isTown(a) || !isTown(b)) {
            return told(BEYOND);
        }
        towns.measure();
        int minutes = towns.between(a, b);
        return told(minutes == Towns.NO_WAY ? NONE : minutes);
    }

    public int lorry(int kind, int town, int minute, int homeBy, int room, int limit) {
        boolean right = within(kind, LORRY, TANK) && isTown(town) && within(minute, 0, LATEST_START)
            && homeBy >= 0 && homeBy / 10 <= LATEST_MINUTE && isTown(homeBy % 10)
            && within(room, 1, MOST_ROOM) && within(limit, 1, MOST_ROOM);
        if (!right) {
            return told(BEYOND);
        }
        int roomThatCounts = kind == SMALL ? room / 2 : room;
        int[] line = {kind, town, minute, homeBy % 10, homeBy / 10, roomThatCounts, limit};
        return told(lorries.add(line));
    }

    public int as(int lorry, int kind) {
        if (!lorries.has(lorry) || !within(kind, LORRY, TANK)) {
            return told(BEYOND);
        }
        boolean isOne = kind == LORRY || kind == lorries.at(lorry, LORRY_KIND);
        return told(isOne ? lorry : KIND);
    }

    public int lorryIs(int lorry, int what) {
        if (!lorries.has(lorry) || !within(what, 0, LORRY_COLUMNS)) {
            return told(BEYOND);
        }
        return what == LORRY_COLUMNS ? givenTo(lorry) : lorries.at(lorry, what);
    }

    public int load(int way, int sort, int room, int tons, int pay) {
        boolean right = isLane(way) && within(sort, DRY_SORT, DANGEROUS_SORT) && within(room, 1, MOST_ROOM)
            && within(tons, 1, MOST_ROOM) && within(pay, 0, MOST_MONEY);
        if (!right) {
            return told(BEYOND);
        }
        if (way / 10 == way % 10) {
            return told(SIZE);
        }
        int[] line = {way / 10, way % 10, sort, room, tons, pay, 0, LATEST_MINUTE, 0, LATEST_MINUTE, NO_LORRY};
        return told(loads.add(line));
    }

    public int window(int load, boolean bring, int from, int to) {
        if (!loads.has(load) || !within(from, 0, LATEST_MINUTE) || !within(to, 0, LATEST_MINUTE)) {
            return told(BEYOND);
        }
        if (from > to) {
            return told(SIZE);
        }
        loads.setPair(load, bring ? LOAD_BRING : LOAD_FETCH, from, to);
        return 1;
    }

    public int loadIs(int load, int what) {
        if (!loads.has(load) || !within(what, 0, LOAD_COLUMNS - 1)) {
            return told(BEYOND);
        }
        return loads.at(load, what);
    }

    public int pay(int load, int v) {
        if (!loads.has(load) || !within(v, 0, MOST_MONEY)) {
            return told(BEYOND);
        }
        return loads.set(load, LOAD_PAY, v);
    }

    public int give(int load, int lorry) {
        if (!loads.has(load) || !(lorry == NO_LORRY || lorries.has(lorry))) {
            return told(BEYOND);
        }
        if (lorry != NO_LORRY && !driving.fits(lorry, load)) {
            return told(KIND);
        }
        return loads.set(load, LOAD_GIVEN, lorry);
    }

    // ---- drives

    public int why(int lorry, int one, int two) {
        int finding = findingOfRow(lorry, one, two);
        return told(finding != NO_FINDING ? finding : driving.run(lorry, one, two));
    }

    public int drive(int lorry, int one, int two, int what) {
        int finding = findingOfRow(lorry, one, two);
        if (finding != NO_FINDING) {
            return told(finding);
        }
        if (!within(what, 0, Drive.LAST_WHAT)) {
            return told(BEYOND);
        }
        boolean right = driving.run(lorry, one, two) == Drive.RIGHT;
        return told(right ? driving.tells(what) : NONE);
    }

    public int best() {
        giving.work();
        return giving.value();
    }

    public int gets(int lorry, int i) {
        if (!lorries.has(lorry) || !within(i, 0, 1)) {
            return told(BEYOND);
        }
        giving.work();
        int row = giving.rowOf(lorry);
        int load = i == 0 ? Giving.firstOf(row) : Giving.secondOf(row);
        return told(load == NO_LOAD ? NONE : load);
    }

    public int empty(boolean without) {
        giving.work();
        int minutes = 0;
        for (int lorry = 0; lorry < lorries.count(); lorry++) {
            minutes += giving.emptyOf(lorry, without ? Giving.ROW_OF_NONE : giving.rowOf(lorry));
        }
        return minutes;
    }

    public int worth(int load) {
        if (!loads.has(load)) {
            return told(BEYOND);
        }
        giving.work();
        return giving.value() - giving.valueWithout(load);
    }

    // ---- prices

    public int paid(int lane, int day, int price) {
        if (!isLane(lane) || !within(day, 0, LAST_DAY) || !within(price, 0, MOST_MONEY)) {
            return told(BEYOND);
        }
        return told(prices.enter(lane, day, price));
    }

    public int span(int lane, int day, int what) {
        if (!isLane(lane) || !within(day, 0, LAST_DAY) || !within(what, 0, Prices.HOW_MANY)) {
            return told(BEYOND);
        }
        return told(prices.tells(lane, day, what));
    }

    // ---- contracts, reports, trust

    public int contract(int load, int by, int to) {
        if (!loads.has(load) || !isFirm(by) || !isFirm(to)) {
            return told(BEYOND);
        }
        if (by == to) {
            return told(SIZE);
        }
        return told(firms.handOn(load, by, to));
    }

    public int chain(int load, int firm, boolean end) {
        if (!loads.has(load) || !isFirm(firm)) {
            return told(BEYOND);
        }
        firms.follow(load, firm);
        return end ? firms.carrier() : firms.links();
    }

    public int doubles(int load) {
        if (!loads.has(load)) {
            return told(BEYOND);
        }
        return firms.doubleGivers(load);
    }

    public int report(int lorry, int town, int minute) {
        if (!lorries.has(lorry) || !isTown(town) || !within(minute, 0, LATEST_MINUTE)) {
            return told(BEYOND);
        }
        return told(reports.enter(lorry, town, minute));
    }

    public int cannot(int lorry, boolean first) {
        if (!lorries.has(lorry)) {
            return told(BEYOND);
        }
        reports.compare(lorry);
        return told(first ? reports.firstPair() : reports.pairs());
    }

    public int trusts(int firm, boolean done) {
        if (!isFirm(firm)) {
            return told(BEYOND);
        }
        return told(firms.judge(firm, done));
    }

    public int trust(int firm, boolean greatest) {
        if (!isFirm(firm)) {
            return told(BEYOND);
        }
        return greatest ? firms.greatestTrust(firm) : firms.leastTrust(firm);
    }

    // ---- pallets, claims

    public int owe(int firm, int to, int n) {
        if (!isFirm(firm) || !isFirm(to) || !within(n, -MOST_OWED_AT_ONCE, MOST_OWED_AT_ONCE)) {
            return told(BEYOND);
        }
        if (firm == to) {
            return told(SIZE);
        }
        return told(pallets.move(firm, to, n));
    }

    public int net(int firm) {
        if (!isFirm(firm)) {
            return told(BEYOND);
        }
        return pallets.sumOf(firm);
    }

    public int clearing(int i) {
        if (i < -1) {
            return told(BEYOND);
        }
        int payments = pallets.settle();
        return told(i == -1 ? payments : pallets.payment(i));
    }

    public int clear() {
        int payments = pallets.settle();
        pallets.forget();
        return payments;
    }

    public int text(int s) {
        if (!isSheet(s)) {
            return told(BEYOND);
        }
        if (sheets[s].isMissing()) {
            return told(MISSING);
        }
        return told(terms.read(sheets[s]));
    }

    public int wrong() {
        return terms.firstFault();
    }

    public int claim(int load, int late, int firm) {
        if (!loads.has(load) || !within(late, 0, LATEST_MINUTE) || !isFirm(firm)) {
            return told(BEYOND);
        }
        if (terms.firstFault() != ALL_RIGHT) {
            return told(BARRED);
        }
        firms.follow(load, firm);
        terms.know(Terms.PAY, loads.at(load, LOAD_PAY));
        terms.know(Terms.LATE, late);
        terms.know(Terms.TONS, loads.at(load, LOAD_TONS));
        terms.know(Terms.SORT, loads.at(load, LOAD_SORT));
        terms.know(Terms.CONTRACTS, firms.contractsOf(load));
        terms.know(Terms.TRUST, firms.leastTrust(firms.carrier()));
        return Math.max(terms.workOut(), LEAST_ANSWER);
    }

    // ---- sheets, the whole

    public int proves(int s) {
        if (!isSheet(s)) {
            return told(BEYOND);
        }
        if (sheets[s].isMissing()) {
            return told(MISSING);
        }
        if (sheets[s].count() != lorries.count()) {
            return told(SIZE);
        }
        giving.work();
        return giving.firstDoubt(sheets[s]);
    }

    public int sheet(int s, int bits, int n) {
        boolean right = isSheet(s) && (bits == 0 || bits == Sheet.BYTE || bits == Sheet.SHORT || bits == Sheet.INT);
        if (!right) {
            return told(BEYOND);
        }
        if (n < 0) {
            return told(SIZE);
        }
        if (n > MOST_NUMBERS) {
            return told(BEYOND);
        }
        int numbers = bits == 0 ? 0 : n;
        sheets[s].begin(bits, numbers);
        return numbers;
    }

    public int put(int s, int i, int v) {
        if (!isSheet(s)) {
            return told(BEYOND);
        }
        if (sheets[s].isMissing()) {
            return told(MISSING);
        }
        if (!sheets[s].reaches(i, 1)) {
            return told(BEYOND);
        }
        sheets[s].write(i, v);
        return 0;
    }

    public int copy(int s, int from, int t, int to, int n) {
        if (!isSheet(s) || !isSheet(t)) {
            return told(BEYOND);
        }
        if (sheets[s].isMissing() || sheets[t].isMissing()) {
            return told(MISSING);
        }
        if (!sheets[s].isAsWideAs(sheets[t])) {
            return told(KIND);
        }
        if (!sheets[s].reaches(from, n) || !sheets[t].reaches(to, n)) {
            return told(BEYOND);
        }
        sheets[t].take(sheets[s], from, to, n);
        return n;
    }

    public int undo() {
        return told(journal.takeBack());
    }

    public int all(int what) {
        switch (what) {
            case 0:
                return lorries.count();
            case 1:
                return loads.count();
            case 2:
                return prices.count();
            case 3:
                return firms.contracts();
            case 4:
                return reports.count();
            case 5:
                return findings;
            default:
                return told(BEYOND);
        }
    }

    // ---- what the arguments are asked

    private int told(int answer) {
        if (answer < LEAST_ANSWER) {
            findings++;
        }
        return answer;
    }

    private int findingOfRow(int lorry, int one, int two) {
        if (!lorries.has(lorry) || !isLoadOrNone(one) || !isLoadOrNone(two)) {
            return BEYOND;
        }
        if (one == NO_LOAD ? two != NO_LOAD : one == two) {
            return BEYOND;
        }
        return driving.fits(lorry, one) && driving.fits(lorry, two) ? NO_FINDING : KIND;
    }

    private int givenTo(int lorry) {
        int bits = 0;
        for (int load = 0; load < loads.count(); load++) {
            if (loads.at(load, LOAD_GIVEN) == lorry) {
                bits |= 1 << load;
            }
        }
        return bits;
    }

    private boolean isLoadOrNone(int load) {
        return load == NO_LOAD || loads.has(load);
    }

    private static boolean within(int v, int least, int most) {
        return v >= least && v <= most;
    }

    private static boolean isTown(int town) {
        return within(town, 0, TOWNS - 1);
    }

    private static boolean isLane(int lane) {
        return lane >= 0 && isTown(lane / 10) && isTown(lane % 10);
    }

    private static boolean isFirm(int firm) {
        return within(firm, 0, FIRMS - 1);
    }

    private static boolean isSheet(int s) {
        return within(s, 0, SHEETS - 1);
    }

    /**
     * What the latest acts changed. Each act changes one stretch of one row of numbers,
     * so an act is taken back by writing the old stretch again.
     */
    private static final class Journal {
        private static final int KEPT = 16;

        private final int[][] rows = new int[KEPT][];
        private final int[][] olds = new int[KEPT][];
        private final int[] places = new int[KEPT];
        private int kept;
        private int next;
        /** Grows with each change, so that what was worked out from the rows can be told to be old. */
        private int changes;

        int changes() {
            return changes;
        }

        void keep(int[] row, int from, int n) {
            if (from < 0 || n < 0 || from > row.length - n) {
                return;
            }
            rows[next] = row;
            olds[next] = Arrays.copyOfRange(row, from, from + n);
            places[next] = from;
            next = (next + 1) % KEPT;
            kept = Math.min(kept + 1, KEPT);
            changes++;
        }

        int takeBack() {
            if (kept == 0) {
                return NONE;
            }
            kept--;
            next = (next + KEPT - 1) % KEPT;
            writeAgain(rows[next], olds[next], places[next]);
            changes++;
            return kept;
        }

        private static void writeAgain(int[] row, int[] old, int from) {
            if (row != null && old != null && from >= 0 && from <= row.length - old.length) {
                System.arraycopy(old, 0, row, from, old.length);
            }
        }
    }

    /** Lines of so many columns, at most so many; how many there are stands ahead of them in the same row. */
    private static final class Table {
        private final Journal journal;
        private final int columns;
        private final int most;
        private final int[] cells;

        Table(Journal journal, int columns, int most) {
            this.journal = journal;
            this.columns = columns;
            this.most = most;
            cells = new int[1 + Math.max(columns * most, 0)];
        }

        int count() {
            return cells[0];
        }

        boolean has(int i) {
            return i >= 0 && i < cells[0];
        }

        int at(int i, int column) {
            return isCell(i, column) ? cells[1 + i * columns + column] : 0;
        }

        /** Answers the number of the new line. Only the count is kept: what stands behind it is nobody's. */
        int add(int[] line) {
            int number = cells[0];
            if (number >= most || line.length != columns) {
                return FULL;
            }
            journal.keep(cells, 0, 1);
            System.arraycopy(line, 0, cells, 1 + number * columns, columns);
            cells[0] = number + 1;
            return number;
        }

        /** Answers what was there. */
        int set(int i, int column, int v) {
            int old = at(i, column);
            if (isCell(i, column)) {
                journal.keep(cells, 1 + i * columns + column, 1);
                cells[1 + i * columns + column] = v;
            }
            return old;
        }

        void setPair(int i, int column, int v, int w) {
            if (isCell(i, column) && isCell(i, column + 1)) {
                int place = 1 + i * columns + column;
                journal.keep(cells, place, 2);
                cells[place] = v;
                cells[place + 1] = w;
            }
        }

        private boolean isCell(int i, int column) {
            return i >= 0 && i < cells[0] && column >= 0 && column < columns;
        }
    }

    /** The roads, and how far it is by them. */
    private static final class Towns {
        static final int NO_WAY = 1000000;

        private final Journal journal;
        /** A road stands at the lesser of its towns times TOWNS, and the greater one. */
        private final int[] roads = new int[TOWNS * TOWNS];
        private final int[] ways = new int[TOWNS * TOWNS];
        private int measuredAt = -1;

        Towns(Journal journal) {
            this.journal = journal;
        }

        int join(int a, int b, int minutes) {
            if (!isTown(a) || !isTown(b)) {
                return 0;
            }
            int place = Math.min(a, b) * TOWNS + Math.max(a, b);
            int old = roads[place];
            journal.keep(roads, place, 1);
            roads[place] = minutes;
            return old;
        }

        /** Is called ahead of between(). */
        void measure() {
            if (measuredAt == journal.changes()) {
                return;
            }
            measuredAt = journal.changes();
            for (int a = 0; a < TOWNS; a++) {
                for (int b = 0; b < TOWNS; b++) {
                    int road = roads[Math.min(a, b) * TOWNS + Math.max(a, b)];
                    ways[a * TOWNS + b] = a == b ? 0 : road == 0 ? NO_WAY : road;
                }
            }
            for (int over = 0; over < TOWNS; over++) {
                shortenBy(over);
            }
        }

        private void shortenBy(int over) {
            for (int a = 0; a < TOWNS; a++) {
                for (int b = 0; b < TOWNS; b++) {
                    int way = ways[a * TOWNS + over] + ways[over * TOWNS + b];
                    if (way < ways[a * TOWNS + b]) {
                        ways[a * TOWNS + b] = way;
                    }
                }
            }
        }

        int between(int a, int b) {
            boolean areTowns = a >= 0 && a < TOWNS && b >= 0 && b < TOWNS;
            return areTowns ? ways[a * TOWNS + b] : NO_WAY;
        }
    }

    /** One lorry driving one row of loads, minute by minute. */
    private static final class Drive {
        static final int RIGHT = 0;
        static final int LAST_WHAT = 5;
        private static final int NOT_COME_TO = 1;
        private static final int TOO_MUCH = 2;
        private static final int BEHIND_WINDOW = 3;
        private static final int HOME_TOO_LATE = 4;
        private static final int MOST_SINCE_REST = 270;
        private static final int MOST_DRIVEN = 540;
        private static final int REST = 45;
        private static final int DOCK = 30;

        private final Towns towns;
        private final Table lorries;
        private final Table loads;
        private int town;
        private int minute;
        private int sinceRest;
        private int driven;
        private int withoutLoad;
        private int rests;
        private int waited;
        private int earned;
        private int fault;

        Drive(Towns towns, Table lorries, Table loads) {
            this.towns = towns;
            this.lorries = lorries;
            this.loads = loads;
        }

        /** Any lorry fits no load. */
        boolean fits(int lorry, int load) {
            if (load == NO_LOAD) {
                return true;
            }
            return takes(lorries.at(lorry, LORRY_KIND), loads.at(load, LOAD_SORT))
                && lorries.at(lorry, LORRY_ROOM) >= loads.at(load, LOAD_ROOM)
                && lorries.at(lorry, LORRY_LIMIT) >= loads.at(load, LOAD_TONS);
        }

        private static boolean takes(int kind, int sort) {
            switch (sort) {
                case COLD_SORT:
                    return kind == COLD;
                case DANGEROUS_SORT:
                    return kind == TANK;
                default:
                    return kind != TANK;
            }
        }

        /** Answers why it is none. */
        int run(int lorry, int one, int two) {
            towns.measure();
            town = lorries.at(lorry, LORRY_TOWN);
            minute = lorries.at(lorry, LORRY_MINUTE);
            sinceRest = 0;
            driven = 0;
            withoutLoad = 0;
            rests = 0;
            waited = 0;
            earned = 0;
            fault = RIGHT;
            carry(one);
            carry(two);
            go(lorries.at(lorry, LORRY_HOME), true);
            if (fault == RIGHT && minute > lorries.at(lorry, LORRY_HOME_BY)) {
                fault = HOME_TOO_LATE;
            }
            return fault;
        }

        /** Of the latest run. */
        int value() {
            return earned - withoutLoad;
        }

        /** Of the latest run, numbered as drive() numbers it. */
        int tells(int what) {
            switch (what) {
                case 0:
                    return minute;
                case 1:
                    return driven;
                case 2:
                    return withoutLoad;
                case 3:
                    return rests;
                case 4:
                    return value();
                default:
                    return waited;
            }
        }

        int emptyMinutes() {
            return withoutLoad;
        }

        private void carry(int load) {
            if (load == NO_LOAD) {
                return;
            }
            earned += loads.at(load, LOAD_PAY);
            go(loads.at(load, LOAD_FROM), true);
            dock(loads.at(load, LOAD_FETCH), loads.at(load, LOAD_FETCH + 1));
            go(loads.at(load, LOAD_TO), false);
            dock(loads.at(load, LOAD_BRING), loads.at(load, LOAD_BRING + 1));
        }

        private void go(int to, boolean isEmpty) {
            if (fault != RIGHT) {
                return;
            }
            int way = towns.between(town, to);
            if (way == Towns.NO_WAY) {
                fault = NOT_COME_TO;
                return;
            }
            if (driven + way > MOST_DRIVEN) {
                fault = TOO_MUCH;
                return;
            }
            roll(way);
            driven += way;
            if (isEmpty) {
                withoutLoad += way;
            }
            town = to;
        }

        private void roll(int way) {
            int left = way;
            // A driver who is just due for a rest takes one ahead of the way's own.
            for (int i = 0; i <= MOST_DRIVEN / MOST_SINCE_REST && sinceRest + left > MOST_SINCE_REST; i++) {
                int part = MOST_SINCE_REST - sinceRest;
                left -= part;
                minute += part + REST;
                sinceRest = 0;
                rests++;
            }
            minute += left;
            sinceRest += left;
        }

        private void dock(int from, int to) {
            if (fault != RIGHT) {
                return;
            }
            if (minute > to) {
                fault = BEHIND_WINDOW;
                return;
            }
            int wait = Math.max(from - minute, 0);
            if (wait >= REST) {
                sinceRest = 0;
            }
            waited += wait;
            minute += wait + DOCK;
        }
    }

    /**
     * The giving. A row is told by one number, as sheets tell it: 100 times (its first load and 1),
     * and (its second one and 1); so rows stand in the document's order by their numbers.
     */
    private static final class Giving {
        static final int ROW_OF_NONE = 0;
        private static final int FIRST = 100;
        private static final int SETS = 1 << MOST_LOADS;
        private static final int MOST_ROWS = 1 + MOST_LOADS * MOST_LOADS;

        private final Journal journal;
        private final Table lorries;
        private final Table loads;
        private final Drive drive;
        /** The most that a lorry and all behind it are worth, by the set of loads that are left to them. */
        private final int[] most = new int[(MOST_LORRIES + 1) * SETS];
        /** The first row with which the lorry comes to that. */
        private final int[] choices = new int[MOST_LORRIES * SETS];
        private final int[] rowsGiven = new int[MOST_LORRIES];
        /** The rows that one lorry may be given, in order, with their loads as bits and what they are worth. */
        private final int[] rows = new int[MOST_ROWS];
        private final int[] takes = new int[MOST_ROWS];
        private final int[] values = new int[MOST_ROWS];
        private int rowCount;
        private int free;
        private int workedAt = -1;

        Giving(Journal journal, Table lorries, Table loads, Drive drive) {
            this.journal = journal;
            this.lorries = lorries;
            this.loads = loads;
            this.drive = drive;
        }

        static int firstOf(int row) {
            return row / FIRST - 1;
        }

        static int secondOf(int row) {
            return row % FIRST - 1;
        }

        private static int rowBy(int one, int two) {
            return FIRST * (one + 1) + two + 1;
        }

        private static int bitOf(int load) {
            return load >= 0 && load < MOST_LOADS ? 1 << load : 0;
        }

        private static int loadsOf(int row) {
            return bitOf(firstOf(row)) | bitOf(secondOf(row));
        }

        /** Is called ahead of value(), valueWithout(), rowOf() and firstDoubt(). */
        void work() {
            if (workedAt == journal.changes()) {
                return;
            }
            workedAt = journal.changes();
            free = 0;
            for (int load = 0; load < loads.count(); load++) {
                if (loads.at(load, LOAD_GIVEN) == NO_LORRY) {
                    free |= bitOf(load);
                }
            }
            int count = Math.min(lorries.count(), MOST_LORRIES);
            for (int set = 0; set < SETS; set++) {
                most[count * SETS + set] = 0;
            }
            for (int lorry = count - 1; lorry >= 0; lorry--) {
                gatherRows(lorry);
                // The lorries ahead take at most two loads each, and valueWithout() leaves out one more.
                int mostGone = 2 * lorry + 1;
                for (int set = 0; set <= free; set++) {
                    if ((set & ~free) == 0 && Integer.bitCount(free & ~set) <= mostGone) {
                        choose(lorry, set);
                    }
                }
            }
            handOut(count);
        }

        private void gatherRows(int lorry) {
            int may = fitting(lorry);
            int atOnce = drive.run(lorry, NO_LOAD, NO_LOAD) == Drive.RIGHT ? drive.value() : 0;
            rowCount = 0;
            addRow(ROW_OF_NONE, atOnce);
            for (int one = 0; one < loads.count(); one++) {
                for (int two = NO_LOAD; two < loads.count(); two++) {
                    if (one == two || (bitOf(one) & may) == 0 || (bitOf(two) & ~may) != 0) {
                        continue;
                    }
                    // A row that is worth no more than none is never chosen: none is ahead of it and leaves more.
                    if (drive.run(lorry, one, two) == Drive.RIGHT && drive.value() > atOnce) {
                        addRow(rowBy(one, two), drive.value());
                    }
                }
            }
        }

        private int fitting(int lorry) {
            int set = 0;
            for (int load = 0; load < loads.count(); load++) {
                if (drive.fits(lorry, load)) {
                    set |= bitOf(load);
                }
            }
            return set & free;
        }

        private void addRow(int row, int value) {
            if (rowCount < MOST_ROWS) {
                rows[rowCount] = row;
                takes[rowCount] = loadsOf(row);
                values[rowCount] = value;
                rowCount++;
            }
        }

        private void choose(int lorry, int set) {
            int behind = (lorry + 1) * SETS;
            int greatest = values[0] + most[behind + set];
            int choice = ROW_OF_NONE;
            for (int r = 1; r < rowCount; r++) {
                if ((takes[r] & ~set) == 0) {
                    int value = values[r] + most[behind + (set & ~takes[r])];
                    if (value > greatest) {
                        greatest = value;
                        choice = rows[r];
                    }
                }
            }
            most[lorry * SETS + set] = greatest;
            choices[lorry * SETS + set] = choice;
        }

        private void handOut(int count) {
            int left = free;
            for (int lorry = 0; lorry < count; lorry++) {
                rowsGiven[lorry] = choices[lorry * SETS + left];
                left &= ~loadsOf(rowsGiven[lorry]);
            }
        }

        int value() {
            return most[free];
        }

        int valueWithout(int load) {
            return most[free & ~bitOf(load)];
        }

        int rowOf(int lorry) {
            return lorry >= 0 && lorry < MOST_LORRIES ? rowsGiven[lorry] : ROW_OF_NONE;
        }

        /** Of a row that fits; a lorry that can't even go home goes nowhere. */
        int emptyOf(int lorry, int row) {
            boolean right = drive.run(lorry, firstOf(row), secondOf(row)) == Drive.RIGHT;
            return right ? drive.emptyMinutes() : 0;
        }

        /** The first lorry whose row on the sheet may not be, or how many there are if it is worth less. */
        int firstDoubt(Sheet sheet) {
            int left = free;
            int sum = 0;
            for (int lorry = 0; lorry < lorries.count(); lorry++) {
                int row = sheet.at(lorry);
                if (!isOfThese(row, left) || (loadsOf(row) & ~fitting(lorry)) != 0) {
                    return lorry;
                }
                boolean right = drive.run(lorry, firstOf(row), secondOf(row)) == Drive.RIGHT;
                if (!right && row != ROW_OF_NONE) {
                    return lorry;
                }
                sum += right ? drive.value() : 0;
                left &= ~loadsOf(row);
            }
            return sum == value() ? ALL_RIGHT : lorries.count();
        }

        private static boolean isOfThese(int row, int left) {
            if (row == ROW_OF_NONE) {
                return true;
            }
            int one = firstOf(row);
            int two = secondOf(row);
            return row > 0 && one != two && (bitOf(one) & left) != 0
                && (two == NO_LOAD || (bitOf(two) & left) != 0);
        }
    }

    /** What was paid by lane and day. */
    private static final class Prices {
        static final int HOW_MANY = 3;
        private static final int MIDDLE = 1;
        private static final int LESSER = 0;
        private static final int LANE = 0;
        private static final int DAY = 1;
        private static final int PRICE = 2;
        private static final int MOST_PRICES = 40;
        private static final int DAYS = 30;

        private final Table paid;
        private final int[] sorted = new int[MOST_PRICES];

        Prices(Journal journal) {
            paid = new Table(journal, 3, MOST_PRICES);
        }

        int count() {
            return paid.count();
        }

        int enter(int lane, int day, int price) {
            int[] line = {lane, day, price};
            int number = paid.add(line);
            return number == FULL ? FULL : number + 1;
        }

        int tells(int lane, int day, int what) {
            int n = gather(lane, day);
            if (what == HOW_MANY) {
                return n;
            }
            if (n == 0) {
                return NONE;
            }
            if (what == MIDDLE) {
                return sorted[(n - 1) / 2];
            }
            return what == LESSER ? sorted[n / 4] : sorted[n - 1 - n / 4];
        }

        private int gather(int lane, int day) {
            int n = 0;
            for (int i = 0; i < paid.count(); i++) {
                int on = paid.at(i, DAY);
                if (paid.at(i, LANE) == lane && on > day - DAYS && on <= day) {
                    insert(paid.at(i, PRICE), n);
                    n++;
                }
            }
            return n;
        }

        private void insert(int price, int n) {
            int place = n;
            while (place > 0 && place < MOST_PRICES && sorted[place - 1] > price) {
                sorted[place] = sorted[place - 1];
                place--;
            }
            if (place < MOST_PRICES) {
                sorted[place] = price;
            }
        }
    }

    /** Who gave loads to whom, and how firms are trusted. */
    private static final class Firms {
        private static final int LOAD = 0;
        private static final int BY = 1;
        private static final int TO = 2;
        private static final int MOST_CONTRACTS = 20;
        private static final int MOST_JUDGED = 200;
        private static final int DOUBT = 3;

        private final Journal journal;
        private final Table handed;
        /** Of firm f the done ones stand at 2 f, the failed ones behind them. */
        private final int[] judged = new int[2 * FIRMS];
        private int links;
        private int carrier;

        Firms(Journal journal) {
            this.journal = journal;
            handed = new Table(journal, 3, MOST_CONTRACTS);
        }

        int contracts() {
            return handed.count();
        }

        int handOn(int load, int by, int to) {
            int[] line = {load, by, to};
            return handed.add(line);
        }

        int contractsOf(int load) {
            int n = 0;
            for (int i = 0; i < handed.count(); i++) {
                if (handed.at(i, LOAD) == load) {
                    n++;
                }
            }
            return n;
        }

        /** Goes along the chain; links() and carrier() tell of it. */
        void follow(int load, int firm) {
            links = 0;
            carrier = firm;
            int used = 0;
            for (int step = 0; step < MOST_CONTRACTS; step++) {
                int contract = firstUnused(load, carrier, used);
                if (contract < 0) {
                    return;
                }
                used |= 1 << contract;
                carrier = handed.at(contract, TO);
                links++;
            }
        }

        int links() {
            return links;
        }

        int carrier() {
            return carrier;
        }

        private int firstUnused(int load, int by, int used) {
            for (int i = 0; i < handed.count(); i++) {
                if (handed.at(i, LOAD) == load && handed.at(i, BY) == by && (used & 1 << i) == 0) {
                    return i;
                }
            }
            return -1;
        }

        int doubleGivers(int load) {
            int givers = 0;
            for (int firm = 0; firm < FIRMS; firm++) {
                int takers = 0;
                for (int i = 0; i < handed.count(); i++) {
                    if (handed.at(i, LOAD) == load && handed.at(i, BY) == firm) {
                        takers |= 1 << handed.at(i, TO);
                    }
                }
                if (Integer.bitCount(takers) > 1) {
                    givers++;
                }
            }
            return givers;
        }

        int judge(int firm, boolean done) {
            if (!isFirm(firm)) {
                return BEYOND;
            }
            int n = judgedOf(firm);
            if (n >= MOST_JUDGED) {
                return FULL;
            }
            int place = done ? 2 * firm : 2 * firm + 1;
            journal.keep(judged, place, 1);
            judged[place]++;
            return n + 1;
        }

        int leastTrust(int firm) {
            return 100 * doneOf(firm) / (judgedOf(firm) + DOUBT);
        }

        int greatestTrust(int firm) {
            return 100 * (doneOf(firm) + DOUBT) / (judgedOf(firm) + DOUBT);
        }

        private int doneOf(int firm) {
            return isFirm(firm) ? judged[2 * firm] : 0;
        }

        private int judgedOf(int firm) {
            return isFirm(firm) ? judged[2 * firm] + judged[2 * firm + 1] : 0;
        }
    }

    /** Where lorries were said to be. */
    private static final class Reports {
        private static final int LORRY_TOLD = 0;
        private static final int TOWN = 1;
        private static final int MINUTE = 2;
        private static final int MOST_REPORTS = 30;

        private final Towns towns;
        private final Table told;
        private int pairs;
        private int firstPair;

        Reports(Journal journal, Towns towns) {
            this.towns = towns;
            told = new Table(journal, 3, MOST_REPORTS);
        }

        int count() {
            return told.count();
        }

        int enter(int lorry, int town, int minute) {
            int[] line = {lorry, town, minute};
            return told.add(line);
        }

        /** Looks for the pairs that can't be; pairs() and firstPair() tell of them. */
        void compare(int lorry) {
            towns.measure();
            pairs = 0;
            firstPair = NONE;
            for (int i = 0; i < told.count(); i++) {
                for (int j = i + 1; j < told.count(); j++) {
                    if (told.at(i, LORRY_TOLD) == lorry && told.at(j, LORRY_TOLD) == lorry && cannotBe(i, j)) {
                        firstPair = pairs == 0 ? 100 * i + j : firstPair;
                        pairs++;
                    }
                }
            }
        }

        int pairs() {
            return pairs;
        }

        int firstPair() {
            return firstPair;
        }

        private boolean cannotBe(int i, int j) {
            int minutes = Math.abs(told.at(i, MINUTE) - told.at(j, MINUTE));
            return towns.between(told.at(i, TOWN), told.at(j, TOWN)) > minutes;
        }
    }

    /** Who owes pallets to whom, and how that is cleared. */
    private static final class Pallets {
        private static final int MOST_OWED = 9999;

        private final Journal journal;
        /** What a firm owes another one stands at FIRMS times the first, and the second. */
        private final int[] owed = new int[FIRMS * FIRMS];
        private final int[] sums = new int[FIRMS];
        /** Each payment leaves a firm more with nothing, so there are fewer than firms. */
        private final int[] payments = new int[FIRMS];
        private int paymentCount;

        Pallets(Journal journal) {
            this.journal = journal;
        }

        int move(int firm, int to, int n) {
            if (!isFirm(firm) || !isFirm(to)) {
                return BEYOND;
            }
            int place = firm * FIRMS + to;
            int sum = owed[place] + n;
            if (!within(sum, -MOST_OWED, MOST_OWED)) {
                return FULL;
            }
            journal.keep(owed, place, 1);
            owed[place] = sum;
            return sum;
        }

        int sumOf(int firm) {
            if (!isFirm(firm)) {
                return 0;
            }
            int sum = 0;
            for (int other = 0; other < FIRMS; other++) {
                sum += owed[other * FIRMS + firm] - owed[firm * FIRMS + other];
            }
            return sum;
        }

        /** Works out the payments and answers how many there are; payment() tells them. */
        int settle() {
            for (int firm = 0; firm < FIRMS; firm++) {
                sums[firm] = sumOf(firm);
            }
            paymentCount = 0;
            for (int round = 0; round < FIRMS && settleOne(); round++) {
                paymentCount = round + 1;
            }
            return paymentCount;
        }

        private boolean settleOne() {
            int taker = 0;
            int payer = 0;
            for (int firm = 1; firm < FIRMS; firm++) {
                taker = sums[firm] > sums[taker] ? firm : taker;
                payer = sums[firm] < sums[payer] ? firm : payer;
            }
            if (sums[taker] <= 0 || sums[payer] >= 0 || paymentCount >= FIRMS) {
                return false;
            }
            int pallets = Math.min(sums[taker], -sums[payer]);
            sums[taker] -= pallets;
            sums[payer] += pallets;
            payments[paymentCount] = 1000000 * payer + 100000 * taker + pallets;
            return true;
        }

        int payment(int i) {
            return i >= 0 && i < paymentCount && i < FIRMS ? payments[i] : NONE;
        }

        void forget() {
            journal.keep(owed, 0, owed.length);
            Arrays.fill(owed, 0);
        }
    }

    /** The text of terms, and the claims by it. */
    private static final class Terms {
        static final int PAY = 1;
        static final int LATE = 2;
        static final int TONS = 3;
        static final int SORT = 4;
        static final int CONTRACTS = 5;
        static final int TRUST = 6;
        private static final int ZERO = 10;
        private static final int SUM = 50;
        private static final int LESS = 51;
        private static final int PRODUCT = 52;
        private static final int QUOTIENT = 53;
        private static final int LESSER = 54;
        private static final int GREATER = 55;
        private static final int IS_LESS = 56;
        private static final int MOST_SIGNS = 14;
        private static final int MOST_AT_ONCE = 5;

        private final Journal journal;
        /** How many signs there are, and behind it the signs: one row, so that it is kept at once. */
        private final int[] signs = new int[1 + MOST_SIGNS];
        private final int[] facts = new int[TRUST + 1];
        private final int[] numbers = new int[MOST_AT_ONCE];

        Terms(Journal journal) {
            this.journal = journal;
        }

        int read(Sheet sheet) {
            int n = sheet.count();
            if (n > MOST_SIGNS) {
                return SIZE;
            }
            for (int i = 0; i < n; i++) {
                if (!isSign(sheet.at(i))) {
                    return BEYOND;
                }
            }
            journal.keep(signs, 0, signs.length);
            signs[0] = n;
            for (int i = 0; i < n; i++) {
                signs[i + 1] = sheet.at(i);
            }
            return n;
        }

        private static boolean isSign(int sign) {
            return within(sign, PAY, TRUST) || within(sign, ZERO, IS_LESS);
        }

        private int count() {
            return Math.min(Math.max(signs[0], 0), MOST_SIGNS);
        }

        int firstFault() {
            int n = count();
            int depth = 0;
            for (int i = 0; i < n; i++) {
                boolean joins = signs[i + 1] >= SUM;
                if (joins ? depth < 2 : depth >= MOST_AT_ONCE) {
                    return i;
                }
                depth += joins ? -1 : 1;
            }
            return n == 0 || depth == 1 ? ALL_RIGHT : n;
        }

        void know(int sign, int fact) {
            if (within(sign, PAY, TRUST)) {
                facts[sign] = fact;
            }
        }

        /** Of a right text; of an empty one 0. */
        int workOut() {
            int n = count();
            int depth = 0;
            for (int i = 0; i < n; i++) {
                int sign = signs[i + 1];
                if (sign < SUM && depth < MOST_AT_ONCE) {
                    numbers[depth] = single(sign);
                    depth++;
                } else if (sign >= SUM && depth >= 2) {
                    depth--;
                    numbers[depth - 1] = joined(sign, numbers[depth - 1], numbers[depth]);
                }
            }
            return n == 0 ? 0 : numbers[0];
        }

        private int single(int sign) {
            return within(sign, PAY, TRUST) ? facts[sign] : sign - ZERO;
        }

        private static int joined(int sign, int a, int b) {
            switch (sign) {
                case SUM:
                    return a + b;
                case LESS:
                    return a - b;
                case PRODUCT:
                    return a * b;
                case QUOTIENT:
                    return b == 0 ? 0 : a / b;
                case LESSER:
                    return Math.min(a, b);
                case GREATER:
                    return Math.max(a, b);
                default:
                    return a < b ? 1 : 0;
            }
        }
    }

    /** A row of numbers of so many bits, with their sign as Java's byte, short and int have it. */
    private static final class Sheet {
        static final int BYTE = 8;
        static final int SHORT = 16;
        static final int INT = 32;

        private final int[] numbers = new int[MOST_NUMBERS];
        /** 0: it is missing. */
        private int bits;
        private int count;

        void begin(int newBits, int n) {
            bits = newBits;
            count = Math.min(Math.max(n, 0), MOST_NUMBERS);
            Arrays.fill(numbers, 0);
        }

        boolean isMissing() {
            return bits == 0;
        }

        boolean isAsWideAs(Sheet other) {
            return bits == other.bits;
        }

        int count() {
            return count;
        }

        /** Whether it has n numbers from one on. */
        boolean reaches(int from, int n) {
            return from >= 0 && n >= 0 && n <= count && from <= count - n;
        }

        int at(int i) {
            return i >= 0 && i < count && i < MOST_NUMBERS ? numbers[i] : 0;
        }

        void write(int i, int v) {
            if (i >= 0 && i < count && i < MOST_NUMBERS) {
                numbers[i] = bits == BYTE ? (byte) v : bits == SHORT ? (short) v : v;
            }
        }

        void take(Sheet other, int from, int to, int n) {
            if (other.reaches(from, n) && reaches(to, n)) {
                System.arraycopy(other.numbers, from, numbers, to, n);
            }
        }
    }
}
