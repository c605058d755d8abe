import java.util.Arrays;

/**
 * Gravity by parish. The project's document tells what each call answers; README.md tells how to
 * use the class and where what stands.
 */
public final class ParishPull {
    public static final int BAD = -1, NOT = -2, FULL = -3, NONE = -4, NULL = -11, CAST = -12, INDEX = -13, SIZE = -14;

    /** Calls whose told thing may be below 0 put their refusals this much lower. */
    private static final int LOWERED = -1000000;

    private static final int MOST_PARISHES = 8;
    private static final int MOST_ROADS = 15;
    private static final int MOST_CARTS = 4;
    private static final int MOST_GOODS = 6;
    private static final int MOST_PEOPLE = 6;
    private static final int MOST_MASS = 99;
    private static final int MOST_PULL = 9;
    private static final int MOST_TOLL = 9;
    private static final int MOST_PRICE = 9;
    private static final int MOST_ROPE = 999;
    private static final int MOST_BORNE = 999;
    private static final int MOST_COST = 99;
    private static final int MOST_DEEP = 999;
    private static final int MOST_WEEK = 9999;
    private static final int SEASONS = 4;
    private static final int WEEKS_OF_SEASON = 13;
    private static final int LAND = 0, HILL = 1, SEA = 2, AIR = 3;

    private final State now = new State();
    private final State kept = new State();
    private final Tape tape = new Tape();
    private final Sheets sheets = new Sheets();
    private final Routes routes = new Routes(now);
    private final Trades trades = new Trades(now, routes);
    private final Councils contest = new Councils(now, routes);
    private final Leagues leagues = new Leagues(now, routes);
    private final Book scaleBook = new Book();
    private boolean imaged;

    public ParishPull() {
    }

    // ---- 1 land, carts, goods, people

    public int parish(int kind) {
        if (!within(kind, LAND, AIR)) {
            return BAD;
        }
        if (now.ground.parishes >= MOST_PARISHES) {
            return FULL;
        }
        return now.ground.addParish(kind);
    }

    public int pull(int parish, int season, int v) {
        if (!now.ground.hasParish(parish) || !within(season, 0, SEASONS - 1) || !within(v, 1, MOST_PULL)) {
            return BAD;
        }
        int old = now.ground.pulls[parish * SEASONS + season];
        now.ground.pulls[parish * SEASONS + season] = v;
        return old;
    }

    public int road(int a, int b, int toll) {
        if (!now.ground.hasParish(a) || !now.ground.hasParish(b) || a == b || !within(toll, 0, MOST_TOLL)) {
            return BAD;
        }
        if (now.ground.joins(a, b)) {
            return NOT;
        }
        if (now.ground.roads >= MOST_ROADS) {
            return FULL;
        }
        return now.ground.addRoad(a, b, toll);
    }

    public int toll(int road, int v) {
        if (!now.ground.hasRoad(road) || !within(v, 0, MOST_TOLL)) {
            return BAD;
        }
        int old = now.ground.tolls[road];
        now.ground.tolls[road] = v;
        return old;
    }

    public int cart(int bears, int cost) {
        if (!within(bears, 0, MOST_BORNE) || !within(cost, 0, MOST_COST)) {
            return BAD;
        }
        if (now.carts >= MOST_CARTS) {
            return FULL;
        }
        return now.addCart(bears, cost);
    }

    public int good(int mass, int price, int parish) {
        if (!within(mass, 1, MOST_MASS) || !within(price, 1, MOST_PRICE) || !now.ground.hasParish(parish)) {
            return BAD;
        }
        if (now.goods >= MOST_GOODS) {
            return FULL;
        }
        return now.addGood(mass, price, parish);
    }

    public int hang(int good, int rope) {
        if (!now.hasGood(good) || !within(rope, 0, MOST_ROPE)) {
            return BAD;
        }
        if (rope > 0 && now.weightOfGood(good) > rope) {
            return NOT;
        }
        int old = now.ropes[good];
        now.ropes[good] = rope;
        return old;
    }

    public int person(int mass, int parish) {
        if (!within(mass, 1, MOST_MASS) || !now.ground.hasParish(parish)) {
            return BAD;
        }
        if (now.people >= MOST_PEOPLE) {
            return FULL;
        }
        return now.addPerson(mass, parish);
    }

    public int of(int parish, int what) {
        if (!now.ground.hasParish(parish)) {
            return BAD;
        }
        switch (what) {
            case 0:
                return now.ground.kinds[parish];
            case 1:
            case 2:
            case 3:
            case 4:
                return now.ground.pulls[parish * SEASONS + what - 1];
            case 5:
                return now.ground.roadsAt(parish);
            case 6:
                return setThere(now.places, now.goods, parish);
            case 7:
                return setThere(now.homes, now.people, parish);
            default:
                return BAD;
        }
    }

    public int told(int number, int what) {
        if (within(what, 0, 2)) {
            return toldOfRoad(number, what);
        }
        if (within(what, 3, 4)) {
            return toldOfCart(number, what);
        }
        if (within(what, 5, 8)) {
            return toldOfGood(number, what);
        }
        return within(what, 9, 10) ? toldOfPerson(number, what) : BAD;
    }

    public int weighs(int parish, int mass) {
        if (!now.ground.hasParish(parish) || !within(mass, 1, MOST_MASS)) {
            return BAD;
        }
        return now.weightAt(parish, mass);
    }

    public int type(int letter) {
        if (!within(letter, ' ', '~')) {
            return BAD;
        }
        return tape.isFull() ? FULL : tape.add(letter);
    }

    public int land() {
        boolean right = tape.read();
        int fault = Tape.FIRST_FAULT - tape.place;
        tape.clear();
        if (!right) {
            return fault;
        }
        now.settle(tape.draft);
        return now.ground.parishes;
    }

    public int count(int what) {
        switch (what) {
            case 0:
                return now.ground.parishes;
            case 1:
                return now.ground.roads;
            case 2:
                return now.carts;
            case 3:
                return now.goods;
            case 4:
                return now.people;
            case 5:
                return now.week;
            case 6:
                return now.season();
            case 7:
                return now.hanging();
            default:
                return BAD;
        }
    }

    public int weeks(int n) {
        if (!within(n, 1, 52)) {
            return BAD;
        }
        if (now.week + n > MOST_WEEK) {
            return FULL;
        }
        int seen = 0;
        for (int k = 0; k < n; k++) {
            seen += now.passWeek();
        }
        return seen;
    }

    // ---- 2 ways, trades

    public int way(int cart, int mass, int from, int to, int i) {
        if (!now.hasCart(cart) || !within(mass, 1, MOST_MASS) || !now.ground.hasParish(from)
                || !now.ground.hasParish(to) || !within(i, -1, MOST_PARISHES - 1)) {
            return BAD;
        }
        routes.harness(cart);
        routes.weigh(mass);
        if (!routes.trace(from, to)) {
            return NONE;
        }
        if (i < 0) {
            return routes.between[from * MOST_PARISHES + to];
        }
        return i < routes.length ? routes.path[i] : NONE;
    }

    public int net(int good, int parish, int cart) {
        if (!now.hasGood(good) || !now.ground.hasParish(parish) || !now.hasCart(cart)) {
            return LOWERED + BAD;
        }
        routes.harness(cart);
        routes.weigh(now.masses[good]);
        routes.spread(now.places[good]);
        if (routes.costs[parish] >= Routes.FAR) {
            return LOWERED + NONE;
        }
        return now.prices[good] * routes.weights[parish] - routes.costs[parish];
    }

    public int market(int good, int cart) {
        if (!now.hasGood(good) || !now.hasCart(cart)) {
            return BAD;
        }
        routes.harness(cart);
        int place = routes.marketOf(good);
        return place < 0 ? NONE : place;
    }

    public int trade(int good, int cart, int what) {
        if (!now.hasGood(good) || !now.hasCart(cart) || !within(what, 0, 1)) {
            return LOWERED + BAD;
        }
        int pair = trades.best(good, cart);
        if (pair < 0) {
            return LOWERED + NONE;
        }
        return what == 0 ? trades.bestGain : pair;
    }

    public int scales(int good, int cart) {
        if (!now.hasGood(good) || !now.hasCart(cart)) {
            return BAD;
        }
        return trades.law(good, cart);
    }

    public int take(int parish, int cart) {
        if (!now.ground.hasParish(parish) || !now.hasCart(cart)) {
            return BAD;
        }
        return contest.takeOf(parish, cart);
    }

    public int councils(int a, int b, int cart, int what) {
        if (!now.ground.hasParish(a) || !now.ground.hasParish(b) || a == b || !now.hasCart(cart)
                || !within(what, 0, 1)) {
            return BAD;
        }
        contest.findRests(a, b, cart);
        if (what == 0) {
            return contest.rests;
        }
        return contest.rests > 0 ? contest.firstRest : NONE;
    }

    public int league(int set, int cart) {
        if (!now.ground.hasSet(set) || !now.hasCart(cart)) {
            return LOWERED + BAD;
        }
        return leagues.worth(set, cart);
    }

    public long upper(int parish, int set, int cart) {
        if (!isMember(parish, set) || !now.hasCart(cart)) {
            return LOWERED + BAD;
        }
        leagues.findPart(parish, set, cart);
        return leagues.partUpper;
    }

    public long lower(int parish, int set, int cart) {
        if (!isMember(parish, set) || !now.hasCart(cart)) {
            return BAD;
        }
        leagues.findPart(parish, set, cart);
        return leagues.partLower;
    }

    public int change(int parish, int pull, int what) {
        if (!now.ground.hasParish(parish) || !within(pull, 1, MOST_PULL) || !within(what, 0, 1)) {
            return BAD;
        }
        return what == 0 ? now.wouldFall(parish, pull) : now.wouldBeLighter(parish, pull);
    }

    public int well(int parish, int deep) {
        if (!now.ground.hasParish(parish) || !within(deep, 1, MOST_DEEP)) {
            return BAD;
        }
        if (now.ground.kinds[parish] == SEA) {
            return NONE;
        }
        return deep * now.weightAt(parish, 1);
    }

    public int image() {
        kept.copyFrom(now);
        imaged = true;
        return 1;
    }

    public int restore() {
        if (!imaged) {
            return NONE;
        }
        now.copyFrom(kept);
        return 1;
    }

    // ---- 3 sheets

    public int beam(int left, int right, int sheet, int lane, int i, int n, int what) {
        if (!now.ground.hasParish(left) || !now.ground.hasParish(right) || !Sheets.isLane(sheet, lane)
                || !within(n, 0, Beam.MOST_STONES) || !within(what, 0, 1)) {
            return LOWERED + BAD;
        }
        int fault = sheets.fault(sheet, lane, i, 2 * n);
        if (fault < 0) {
            return LOWERED + fault;
        }
        long[] row = sheets.rows[sheet];
        if (!Beam.areStones(row, i, n)) {
            return LOWERED + NOT;
        }
        int turning = Beam.turning(now, left, right, row, i, n);
        if (what == 0) {
            return turning;
        }
        int stones = Beam.fewest(turning, now.weightAt(left, 1), now.weightAt(right, 1));
        return stones > Beam.MOST_ADDED ? LOWERED + NONE : stones;
    }

    public int book(int parish, int mass, int week, int sheet, int lane, int i, int n, int what) {
        if (!now.ground.hasParish(parish) || !within(mass, 1, MOST_MASS) || !within(week, 0, Book.LAST_START)
                || !Sheets.isLane(sheet, lane) || !within(n, 1, Sheets.MOST_ITEMS) || !within(what, 0, 2)) {
            return BAD;
        }
        int fault = sheets.fault(sheet, lane, i, n);
        if (fault < 0) {
            return fault;
        }
        scaleBook.open(now.ground.kinds[parish], mass, week);
        int wrong = scaleBook.readItems(sheets.rows[sheet], i, n);
        if (what == 0) {
            return scaleBook.fittingRows();
        }
        if (what == 1) {
            return wrong < 0 ? scaleBook.sureSeasons() : NONE;
        }
        return wrong < 0 ? NONE : wrong;
    }

    public int mills(int sheet, int lane, int i, int n) {
        if (!Sheets.isLane(sheet, lane) || !within(n, 1, 8)) {
            return BAD;
        }
        int fault = sheets.fault(sheet, lane, i, 2 * n);
        if (fault < 0) {
            return fault;
        }
        long[] row = sheets.rows[sheet];
        int all = 0;
        for (int k = i; k < i + 2 * n; k += 2) {
            long far = row[k + 1];
            if (row[k] < 0 || row[k] >= now.ground.parishes || far < 0 || far > 99) {
                return NOT;
            }
            all += now.weightAt((int) row[k], 1) * (int) far;
        }
        return all;
    }

    public int film(int sheet, int lane, int i) {
        if (!Sheets.isLane(sheet, lane)) {
            return BAD;
        }
        int fault = sheets.fault(sheet, lane, i, now.goods);
        if (fault < 0) {
            return fault;
        }
        for (int good = 0; good < now.goods; good++) {
            sheets.put(sheet, i + good, now.weightOfGood(good));
        }
        return now.goods;
    }

    public int sheet(int sheet, int lane, int n) {
        if (!Sheets.isLane(sheet, lane) || n > Sheets.MOST_ITEMS) {
            return BAD;
        }
        if (n < 0) {
            return SIZE;
        }
        sheets.renew(sheet, lane, n);
        return n;
    }

    public int drop(int sheet) {
        if (!Sheets.isSheet(sheet)) {
            return BAD;
        }
        return sheets.isMissing(sheet) ? NULL : sheets.empty(sheet);
    }

    public int item(int sheet, int lane, int i, long v) {
        if (!Sheets.isLane(sheet, lane)) {
            return BAD;
        }
        int fault = sheets.fault(sheet, lane, i, 1);
        if (fault < 0) {
            return fault;
        }
        sheets.put(sheet, i, v);
        return 1;
    }

    public int copy(int from, int i, int to, int j, int n) {
        if (!Sheets.isSheet(from) || !Sheets.isSheet(to)) {
            return BAD;
        }
        if (sheets.isMissing(from) || sheets.isMissing(to)) {
            return NULL;
        }
        if (sheets.lanes[from] != sheets.lanes[to]) {
            return CAST;
        }
        if (!sheets.holds(from, i, n) || !sheets.holds(to, j, n)) {
            return INDEX;
        }
        System.arraycopy(sheets.rows[from], i, sheets.rows[to], j, n);
        return n;
    }

    // ---- what the calls share

    private static boolean within(int v, int least, int most) {
        return v >= least && v <= most;
    }

    private boolean isMember(int parish, int set) {
        return now.ground.hasSet(set) && now.ground.hasParish(parish) && (set >> parish & 1) != 0;
    }

    private static int setThere(int[] places, int count, int parish) {
        int set = 0;
        for (int k = 0; k < count; k++) {
            if (places[k] == parish) {
                set |= 1 << k;
            }
        }
        return set;
    }

    private int toldOfRoad(int road, int what) {
        if (!now.ground.hasRoad(road)) {
            return BAD;
        }
        if (what == 0) {
            return now.ground.lesser[road];
        }
        return what == 1 ? now.ground.greater[road] : now.ground.tolls[road];
    }

    private int toldOfCart(int cart, int what) {
        if (!now.hasCart(cart)) {
            return BAD;
        }
        return what == 3 ? now.bears[cart] : now.costs[cart];
    }

    private int toldOfGood(int good, int what) {
        if (!now.hasGood(good)) {
            return BAD;
        }
        switch (what) {
            case 5:
                return now.masses[good];
            case 6:
                return now.prices[good];
            case 7:
                return now.places[good];
            default:
                return now.ropes[good];
        }
    }

    private int toldOfPerson(int person, int what) {
        if (person < 0 || person >= now.people) {
            return BAD;
        }
        return what == 9 ? now.bodies[person] : now.homes[person];
    }

    /** Parishes and roads: what a land's text tells. */
    private static final class Ground {
        private static final int FIRST_PULL = 5;

        final int[] kinds = new int[MOST_PARISHES];
        final int[] pulls = new int[MOST_PARISHES * SEASONS];
        final int[] lesser = new int[MOST_ROADS];
        final int[] greater = new int[MOST_ROADS];
        final int[] tolls = new int[MOST_ROADS];
        int parishes;
        int roads;

        static int weight(int kind, int pull, int mass) {
            switch (kind) {
                case LAND:
                    return mass * pull;
                case HILL:
                    return mass * pull + mass;
                case SEA:
                    return 0;
                default:
                    return (mass * pull + mass) / 2;
            }
        }

        void clear() {
            parishes = 0;
            roads = 0;
        }

        boolean hasParish(int parish) {
            return parish >= 0 && parish < parishes;
        }

        boolean hasRoad(int road) {
            return road >= 0 && road < roads;
        }

        boolean hasSet(int set) {
            return set >= 0 && set < 1 << parishes;
        }

        int addParish(int kind) {
            int parish = parishes;
            kinds[parish] = kind;
            for (int season = 0; season < SEASONS; season++) {
                pulls[parish * SEASONS + season] = FIRST_PULL;
            }
            parishes++;
            return parish;
        }

        int addRoad(int a, int b, int toll) {
            int road = roads;
            lesser[road] = Math.min(a, b);
            greater[road] = Math.max(a, b);
            tolls[road] = toll;
            roads++;
            return road;
        }

        boolean joins(int a, int b) {
            for (int road = 0; road < roads; road++) {
                if (lesser[road] == Math.min(a, b) && greater[road] == Math.max(a, b)) {
                    return true;
                }
            }
            return false;
        }

        int roadsAt(int parish) {
            int there = 0;
            for (int road = 0; road < roads; road++) {
                if (otherEnd(road, parish) >= 0) {
                    there++;
                }
            }
            return there;
        }

        /** Below 0, if the road does not touch the parish. */
        int otherEnd(int road, int parish) {
            if (lesser[road] == parish) {
                return greater[road];
            }
            return greater[road] == parish ? lesser[road] : -1;
        }

        void copyFrom(Ground other) {
            System.arraycopy(other.kinds, 0, kinds, 0, MOST_PARISHES);
            System.arraycopy(other.pulls, 0, pulls, 0, MOST_PARISHES * SEASONS);
            System.arraycopy(other.lesser, 0, lesser, 0, MOST_ROADS);
            System.arraycopy(other.greater, 0, greater, 0, MOST_ROADS);
            System.arraycopy(other.tolls, 0, tolls, 0, MOST_ROADS);
            parishes = other.parishes;
            roads = other.roads;
        }
    }

    /** All that an image keeps. */
    private static final class State {
        final Ground ground = new Ground();
        final int[] bears = new int[MOST_CARTS];
        final int[] costs = new int[MOST_CARTS];
        final int[] masses = new int[MOST_GOODS];
        final int[] prices = new int[MOST_GOODS];
        final int[] places = new int[MOST_GOODS];
        final int[] ropes = new int[MOST_GOODS];
        final int[] bodies = new int[MOST_PEOPLE];
        final int[] homes = new int[MOST_PEOPLE];
        int carts;
        int goods;
        int people;
        int week;

        static int seasonOf(int week) {
            return week / WEEKS_OF_SEASON % SEASONS;
        }

        int season() {
            return seasonOf(week);
        }

        int weightAt(int parish, int mass) {
            return Ground.weight(ground.kinds[parish], ground.pulls[parish * SEASONS + season()], mass);
        }

        int weightOfGood(int good) {
            return weightAt(places[good], masses[good]);
        }

        boolean hasCart(int cart) {
            return cart >= 0 && cart < carts;
        }

        boolean hasGood(int good) {
            return good >= 0 && good < goods;
        }

        int addCart(int borne, int cost) {
            bears[carts] = borne;
            costs[carts] = cost;
            carts++;
            return carts - 1;
        }

        int addGood(int mass, int price, int parish) {
            masses[goods] = mass;
            prices[goods] = price;
            places[goods] = parish;
            ropes[goods] = 0;
            goods++;
            return goods - 1;
        }

        int addPerson(int mass, int parish) {
            bodies[people] = mass;
            homes[people] = parish;
            people++;
            return people - 1;
        }

        int hanging() {
            int all = 0;
            for (int good = 0; good < goods; good++) {
                if (ropes[good] > 0) {
                    all++;
                }
            }
            return all;
        }

        /** Goods that fall, and 100 times how many people go. */
        int passWeek() {
            week++;
            int seen = 0;
            for (int person = 0; person < people; person++) {
                int goal = lighterParish(person);
                if (goal != homes[person]) {
                    homes[person] = goal;
                    seen += 100;
                }
            }
            for (int good = 0; good < goods; good++) {
                if (ropes[good] > 0 && weightOfGood(good) > ropes[good]) {
                    ropes[good] = 0;
                    seen++;
                }
            }
            return seen;
        }

        private int lighterParish(int person) {
            int home = homes[person];
            int best = home;
            int least = weightAt(home, bodies[person]);
            for (int road = 0; road < ground.roads; road++) {
                int other = ground.otherEnd(road, home);
                if (other >= 0) {
                    int there = weightAt(other, bodies[person]);
                    // roads come in any order, so of like ones the lesser number must be kept
                    if (there < least || there == least && best != home && other < best) {
                        best = other;
                        least = there;
                    }
                }
            }
            return best;
        }

        int wouldFall(int parish, int pull) {
            int set = 0;
            for (int good = 0; good < goods; good++) {
                if (places[good] == parish && ropes[good] > 0
                        && Ground.weight(ground.kinds[parish], pull, masses[good]) > ropes[good]) {
                    set |= 1 << good;
                }
            }
            return set;
        }

        int wouldBeLighter(int parish, int pull) {
            int set = 0;
            for (int person = 0; person < people; person++) {
                int mass = bodies[person];
                if (homes[person] == parish
                        && Ground.weight(ground.kinds[parish], pull, mass) < weightAt(parish, mass)) {
                    set |= 1 << person;
                }
            }
            return set;
        }

        void settle(Ground told) {
            ground.copyFrom(told);
            goods = 0;
            people = 0;
        }

        void copyFrom(State other) {
            ground.copyFrom(other.ground);
            System.arraycopy(other.bears, 0, bears, 0, MOST_CARTS);
            System.arraycopy(other.costs, 0, costs, 0, MOST_CARTS);
            System.arraycopy(other.masses, 0, masses, 0, MOST_GOODS);
            System.arraycopy(other.prices, 0, prices, 0, MOST_GOODS);
            System.arraycopy(other.places, 0, places, 0, MOST_GOODS);
            System.arraycopy(other.ropes, 0, ropes, 0, MOST_GOODS);
            System.arraycopy(other.bodies, 0, bodies, 0, MOST_PEOPLE);
            System.arraycopy(other.homes, 0, homes, 0, MOST_PEOPLE);
            carts = other.carts;
            goods = other.goods;
            people = other.people;
            week = other.week;
        }
    }

    /** The tape, and the reading of it as a land into a draft, so that a fault leaves the land as it is. */
    private static final class Tape {
        private static final int MOST_LETTERS = 120;
        static final int FIRST_FAULT = -20;
        private static final String KINDS = "lhsa";

        private final char[] letters = new char[MOST_LETTERS];
        final Ground draft = new Ground();
        private int length;
        /** The next letter to be read; where a reading fails it stays on the letter that can't stand there. */
        int place;

        boolean isFull() {
            return length >= MOST_LETTERS;
        }

        int add(int letter) {
            letters[length] = (char) letter;
            length++;
            return length;
        }

        void clear() {
            length = 0;
        }

        boolean read() {
            place = 0;
            draft.clear();
            if (!readParishes()) {
                return false;
            }
            if (takes(';') && !readRoads()) {
                return false;
            }
            skipBlanks();
            return place >= length;
        }

        private boolean readParishes() {
            for (int k = 1; k <= MOST_PARISHES; k++) {
                if (!readParish()) {
                    return false;
                }
                // behind the eighth no comma can stand: it is left for the caller to trip over
                if (k == MOST_PARISHES || !takes(',')) {
                    return true;
                }
            }
            return true;
        }

        private boolean readParish() {
            skipBlanks();
            int kind = place < length ? KINDS.indexOf(letters[place]) : -1;
            if (kind < 0) {
                return false;
            }
            place++;
            int parish = draft.addParish(kind);
            if (digit(1, MOST_PULL) < 0) {
                return true;
            }
            for (int season = 0; season < SEASONS; season++) {
                int pull = digit(1, MOST_PULL);
                if (pull < 0) {
                    return false;
                }
                place++;
                draft.pulls[parish * SEASONS + season] = pull;
            }
            return true;
        }

        private boolean readRoads() {
            for (int k = 1; k <= MOST_ROADS; k++) {
                if (!readRoad()) {
                    return false;
                }
                if (k == MOST_ROADS || !takes(',')) {
                    return true;
                }
            }
            return true;
        }

        private boolean readRoad() {
            int a = digit(0, draft.parishes - 1);
            if (a < 0) {
                return false;
            }
            place++;
            int b = digit(0, draft.parishes - 1);
            if (b < 0 || a == b || draft.joins(a, b)) {
                return false;
            }
            place++;
            int toll = 0;
            if (takes('t')) {
                toll = digit(0, MOST_TOLL);
                if (toll < 0) {
                    return false;
                }
                place++;
            }
            draft.addRoad(a, b, toll);
            return true;
        }

        private void skipBlanks() {
            while (place < length && letters[place] == ' ') {
                place++;
            }
        }

        private boolean takes(char letter) {
            skipBlanks();
            if (place >= length || letters[place] != letter) {
                return false;
            }
            place++;
            return true;
        }

        /** The digit that is next, which stays next; below 0, if there is none of these. */
        private int digit(int least, int most) {
            skipBlanks();
            if (place >= length) {
                return -1;
            }
            int v = letters[place] - '0';
            return v >= least && v <= most ? v : -1;
        }
    }

    /** Ways of one load by one cart; its rows are used again by every call. */
    private static final class Routes {
        /** Far above what any way can cost, and low enough to be added to. */
        static final int FAR = 1 << 29;
        private static final int NO_ROAD = -1;
        static final int SIDE = MOST_PARISHES;

        private final State state;
        /** By SIDE times the parish that is left, and the other one. */
        private final int[] tolls = new int[SIDE * SIDE];
        final int[] between = new int[SIDE * SIDE];
        final int[] weights = new int[SIDE];
        final int[] costs = new int[SIDE];
        private final int[] next = new int[SIDE];
        final int[] path = new int[SIDE];
        int length;
        int parishes;
        private int borne;
        private int cost;
        int league;
        private int open;
        int bestNet;

        Routes(State state) {
            this.state = state;
        }

        void harness(int cart) {
            Ground ground = state.ground;
            parishes = ground.parishes;
            borne = state.bears[cart];
            cost = state.costs[cart];
            league = 0;
            Arrays.fill(tolls, NO_ROAD);
            for (int road = 0; road < ground.roads; road++) {
                int a = ground.lesser[road];
                int b = ground.greater[road];
                tolls[a * SIDE + b] = ground.tolls[road];
                tolls[b * SIDE + a] = ground.tolls[road];
            }
        }

        void weigh(int mass) {
            for (int parish = 0; parish < parishes; parish++) {
                weights[parish] = state.weightAt(parish, mass);
            }
        }

        /** What each parish costs from this one on; FAR, where no way leads. */
        void spread(int from) {
            start(from);
            for (int k = 0; k < parishes; k++) {
                int parish = nearest();
                if (parish < 0) {
                    return;
                }
                leave(parish);
            }
        }

        /** The market of a load that lies there, and its net in bestNet; below 0, if there is none. */
        int bestPlace(int from, int price) {
            start(from);
            int best = -1;
            int most = price * heaviestOpen();
            for (int k = 0; k < parishes; k++) {
                int parish = nearest();
                // what is left is no nearer than this one, so none of it can bring as much as the best
                if (parish < 0 || best >= 0 && most - costs[parish] < bestNet) {
                    return best;
                }
                int net = price * weights[parish] - costs[parish];
                if (best < 0 || net > bestNet || net == bestNet && parish < best) {
                    best = parish;
                    bestNet = net;
                }
                leave(parish);
            }
            return best;
        }

        /** The market of a good by the cart that is harnessed; below 0, if there is none. */
        int marketOf(int good) {
            weigh(state.masses[good]);
            return bestPlace(state.places[good], state.prices[good]);
        }

        private void start(int from) {
            Arrays.fill(costs, FAR);
            open = 0;
            for (int parish = 0; parish < parishes; parish++) {
                if (weights[parish] <= borne) {
                    open |= 1 << parish;
                }
            }
            if (weights[from] <= borne) {
                costs[from] = 0;
            }
        }

        private int heaviestOpen() {
            int most = 0;
            for (int parish = 0; parish < parishes; parish++) {
                if (weights[parish] <= borne && weights[parish] > most) {
                    most = weights[parish];
                }
            }
            return most;
        }

        private int nearest() {
            int best = -1;
            int least = FAR;
            for (int parish = 0; parish < parishes; parish++) {
                if ((open >> parish & 1) != 0 && costs[parish] < least) {
                    best = parish;
                    least = costs[parish];
                }
            }
            return best;
        }

        private void leave(int from) {
            open &= ~(1 << from);
            for (int to = 0; to < parishes; to++) {
                if ((open >> to & 1) != 0 && tolls[from * SIDE + to] != NO_ROAD) {
                    int there = costs[from] + roadCost(from, to);
                    if (there < costs[to]) {
                        costs[to] = there;
                    }
                }
            }
        }

        private int roadCost(int from, int to) {
            boolean free = (league >> from & league >> to & 1) != 0;
            return free ? cost : cost + tolls[from * SIDE + to] * weights[from] / 10;
        }

        /** Whether a way leads to another parish, once all are spread. */
        boolean leads(int from, int to) {
            return from != to && between[from * SIDE + to] < FAR;
        }

        void spreadAll() {
            for (int from = 0; from < parishes; from++) {
                spread(from);
                System.arraycopy(costs, 0, between, from * SIDE, SIDE);
            }
        }

        /** The way in path and length. False: there is none. */
        boolean trace(int from, int to) {
            spreadAll();
            if (between[from * SIDE + to] >= FAR) {
                return false;
            }
            findNext(to);
            path[0] = from;
            length = 1;
            int left = (1 << parishes) - 1 & ~(1 << from);
            int at = from;
            for (int k = 1; k < parishes && at != to; k++) {
                at = firstStep(at, to, left);
                if (at < 0) {
                    return false;
                }
                left &= ~(1 << at);
                path[k] = at;
                length = k + 1;
            }
            return at == to;
        }

        /** For each parish the set of those to which a least way to the goal can go on. */
        private void findNext(int goal) {
            for (int from = 0; from < parishes; from++) {
                next[from] = 0;
                int least = between[from * SIDE + goal];
                for (int to = 0; to < parishes; to++) {
                    if (least < FAR && tolls[from * SIDE + to] != NO_ROAD
                            && roadCost(from, to) + between[to * SIDE + goal] == least) {
                        next[from] |= 1 << to;
                    }
                }
            }
        }

        private int firstStep(int at, int goal, int left) {
            int steps = next[at] & left;
            for (int parish = 0; parish < parishes; parish++) {
                if ((steps >> parish & 1) != 0 && reaches(parish, goal, left)) {
                    return parish;
                }
            }
            return -1;
        }

        /** Roads that cost nothing lead round in rings: a step may need a parish that is used already. */
        private boolean reaches(int from, int goal, int left) {
            int seen = 1 << from;
            for (int k = 0; k < parishes; k++) {
                for (int parish = 0; parish < parishes; parish++) {
                    if ((seen >> parish & 1) != 0) {
                        seen |= next[parish] & left;
                    }
                }
            }
            return (seen >> goal & 1) != 0;
        }
    }

    /** What is gained by weighing light and selling heavy, and the scales that end it. */
    private static final class Trades {
        private static final int SIDE = Routes.SIDE;
        private static final int SCALE_PULL = 5;

        private final State state;
        private final Routes routes;
        private final int[] values = new int[MOST_PARISHES];
        /** Of each parish where it is bought, by its pull or by scales: the set of those where selling so gains. */
        private final int[] plainToPlain = new int[MOST_PARISHES];
        private final int[] plainToScale = new int[MOST_PARISHES];
        private final int[] scaleToPlain = new int[MOST_PARISHES];
        int bestGain;

        Trades(State state, Routes routes) {
            this.state = state;
            this.routes = routes;
        }

        /** 10 times where it is bought and where it is sold, its gain in bestGain; below 0, if there is none. */
        int best(int good, int cart) {
            findValues(good, cart);
            int pair = -1;
            for (int from = 0; from < routes.parishes; from++) {
                for (int to = 0; to < routes.parishes; to++) {
                    if (routes.leads(from, to)) {
                        int gain = values[to] - values[from] - routes.between[from * SIDE + to];
                        if (pair < 0 || gain > bestGain) {
                            pair = 10 * from + to;
                            bestGain = gain;
                        }
                    }
                }
            }
            return pair;
        }

        int law(int good, int cart) {
            findValues(good, cart);
            findGains(state.prices[good] * SCALE_PULL * state.masses[good]);
            int all = (1 << routes.parishes) - 1;
            int fewest = all;
            for (int set = 0; set < all; set++) {
                if (Integer.bitCount(set) < Integer.bitCount(fewest) && endsGains(set)) {
                    fewest = set;
                }
            }
            return fewest;
        }

        private void findValues(int good, int cart) {
            routes.harness(cart);
            routes.weigh(state.masses[good]);
            routes.spreadAll();
            for (int parish = 0; parish < routes.parishes; parish++) {
                values[parish] = state.prices[good] * routes.weights[parish];
            }
        }

        /** Between two scales a load brings what it cost, so that needs no row. */
        private void findGains(int scaled) {
            for (int from = 0; from < routes.parishes; from++) {
                plainToPlain[from] = 0;
                plainToScale[from] = 0;
                scaleToPlain[from] = 0;
                for (int to = 0; to < routes.parishes; to++) {
                    if (routes.leads(from, to)) {
                        int cost = routes.between[from * SIDE + to];
                        plainToPlain[from] |= values[to] - values[from] > cost ? 1 << to : 0;
                        plainToScale[from] |= scaled - values[from] > cost ? 1 << to : 0;
                        scaleToPlain[from] |= values[to] - scaled > cost ? 1 << to : 0;
                    }
                }
            }
        }

        private boolean endsGains(int set) {
            for (int from = 0; from < routes.parishes; from++) {
                int gains = (set >> from & 1) != 0
                        ? scaleToPlain[from] & ~set
                        : plainToPlain[from] & ~set | plainToScale[from] & set;
                if (gains != 0) {
                    return false;
                }
            }
            return true;
        }
    }

    /** Takes, and two councils that set their pulls against one another. */
    private static final class Councils {
        private static final int CHOICES = MOST_PULL;

        private final State state;
        private final Routes routes;
        /** By CHOICES times the first's pull less 1, and the other's less 1. */
        private final int[] firstTakes = new int[CHOICES * CHOICES];
        private final int[] otherTakes = new int[CHOICES * CHOICES];
        int rests;
        int firstRest;

        Councils(State state, Routes routes) {
            this.state = state;
            this.routes = routes;
        }

        int takeOf(int parish, int cart) {
            routes.harness(cart);
            int all = 0;
            for (int good = 0; good < state.goods; good++) {
                if (routes.marketOf(good) == parish) {
                    all++;
                }
            }
            return all;
        }

        void findRests(int a, int b, int cart) {
            Arrays.fill(firstTakes, 0);
            Arrays.fill(otherTakes, 0);
            routes.harness(cart);
            for (int good = 0; good < state.goods; good++) {
                addTakes(a, b, good);
            }
            rests = 0;
            firstRest = 0;
            for (int k = 0; k < CHOICES * CHOICES; k++) {
                if (firstTakes[k] >= most(firstTakes, k % CHOICES, CHOICES)
                        && otherTakes[k] >= most(otherTakes, k - k % CHOICES, 1)) {
                    firstRest = rests > 0 ? firstRest : 10 * (k / CHOICES + 1) + k % CHOICES + 1;
                    rests++;
                }
            }
        }

        private void addTakes(int a, int b, int good) {
            int mass = state.masses[good];
            routes.weigh(mass);
            for (int k = 0; k < CHOICES * CHOICES; k++) {
                routes.weights[a] = Ground.weight(state.ground.kinds[a], k / CHOICES + 1, mass);
                routes.weights[b] = Ground.weight(state.ground.kinds[b], k % CHOICES + 1, mass);
                int place = routes.bestPlace(state.places[good], state.prices[good]);
                if (place == a) {
                    firstTakes[k]++;
                } else if (place == b) {
                    otherTakes[k]++;
                }
            }
        }

        private static int most(int[] takes, int first, int step) {
            int most = 0;
            for (int k = 0; k < CHOICES; k++) {
                most = Math.max(most, takes[first + k * step]);
            }
            return most;
        }
    }

    /** What leagues are worth, and a member's part in one. */
    private static final class Leagues {
        private static final long[] ORDERS = {1, 1, 2, 6, 24, 120, 720, 5040, 40320};

        private final State state;
        private final Routes routes;
        /** By leagues: what all goods bring together in their markets. */
        private final int[] totals = new int[1 << MOST_PARISHES];
        long partUpper;
        long partLower;

        Leagues(State state, Routes routes) {
            this.state = state;
            this.routes = routes;
        }

        int worth(int set, int cart) {
            totals[0] = 0;
            totals[set] = 0;
            routes.harness(cart);
            for (int good = 0; good < state.goods; good++) {
                routes.weigh(state.masses[good]);
                addTotal(good, 0);
                if (set != 0) {
                    addTotal(good, set);
                }
            }
            return totals[set] - totals[0];
        }

        void findPart(int parish, int set, int cart) {
            findTotals(set, cart);
            int members = Integer.bitCount(set);
            int others = set & ~(1 << parish);
            long sum = 0;
            for (int come = 0; come <= others; come++) {
                if ((come & ~others) == 0) {
                    int ahead = Integer.bitCount(come);
                    sum += ORDERS[ahead] * ORDERS[members - 1 - ahead] * (totals[come | 1 << parish] - totals[come]);
                }
            }
            long common = commonDivisor(sum, ORDERS[members]);
            partUpper = common > 0 ? sum / common : 0;
            partLower = common > 0 ? ORDERS[members] / common : 1;
        }

        private void findTotals(int set, int cart) {
            Arrays.fill(totals, 0);
            routes.harness(cart);
            for (int good = 0; good < state.goods; good++) {
                routes.weigh(state.masses[good]);
                for (int come = 0; come <= set; come++) {
                    if ((come & ~set) == 0) {
                        addTotal(good, come);
                    }
                }
            }
        }

        private void addTotal(int good, int set) {
            routes.league = set;
            if (routes.bestPlace(state.places[good], state.prices[good]) >= 0) {
                totals[set] += routes.bestNet;
            }
        }

        private static long commonDivisor(long a, long b) {
            long big = b;
            long small = a;
            for (int k = 0; k < 100 && small != 0; k++) {
                long rest = big % small;
                big = small;
                small = rest;
            }
            return big;
        }
    }

    /** Stones on a beam over a border. */
    private static final class Beam {
        static final int MOST_STONES = 8;
        static final int MOST_ADDED = 30;
        private static final int ARM = 6;

        private Beam() {
        }

        static boolean areStones(long[] row, int i, int n) {
            for (int k = i; k < i + 2 * n; k += 2) {
                long place = row[k + 1];
                if (row[k] < 1 || row[k] > MOST_MASS || place < -ARM || place > ARM || place == 0) {
                    return false;
                }
            }
            return true;
        }

        /** Places to the left are below 0, so the sum takes away what turns there. */
        static int turning(State state, int left, int right, long[] row, int i, int n) {
            int sum = 0;
            for (int k = i; k < i + 2 * n; k += 2) {
                int place = (int) row[k + 1];
                sum += state.weightAt(place < 0 ? left : right, (int) row[k]) * place;
            }
            return sum;
        }

        /**
         * The fewest stones that even this turning, told what one weighs to the left and to the right;
         * above MOST_ADDED, if so many can't. Stones on one side can turn by every number of places up to
         * ARM for each, so only the sums of places count.
         */
        static int fewest(int turning, int leftWeight, int rightWeight) {
            int best = MOST_ADDED + 1;
            for (int right = 0; right <= MOST_ADDED * ARM && stonesFor(right) < best; right++) {
                int rest = turning + rightWeight * right;
                int left = leftWeight > 0 ? rest / leftWeight : 0;
                if (rest >= 0 && left * leftWeight == rest) {
                    best = Math.min(best, stonesFor(right) + stonesFor(left));
                }
            }
            return best;
        }

        private static int stonesFor(int places) {
            return (places + ARM - 1) / ARM;
        }
    }

    /** Pulls by a scales' book: of each season the set of pulls that fit all that was read. */
    private static final class Book {
        static final int LAST_START = 9975;
        private static final int ALL_PULLS = (1 << MOST_PULL + 1) - 2;

        private final int[] fitting = new int[SEASONS];
        private int kind;
        private int mass;
        private int week;

        void open(int kindThere, int massWeighed, int firstWeek) {
            kind = kindThere;
            mass = massWeighed;
            week = firstWeek;
            Arrays.fill(fitting, ALL_PULLS);
        }

        /** The first false item, counted from the book's first one; below 0, if there is none. */
        int readItems(long[] row, int i, int n) {
            for (int k = 0; k < n; k++) {
                if (row[i + k] >= 0) {
                    int season = State.seasonOf(week + k);
                    fitting[season] &= pullsFor(row[i + k]);
                    if (fitting[season] == 0) {
                        return k;
                    }
                }
            }
            return -1;
        }

        int fittingRows() {
            int rows = 1;
            for (int season = 0; season < SEASONS; season++) {
                rows *= Integer.bitCount(fitting[season]);
            }
            return rows;
        }

        int sureSeasons() {
            int set = 0;
            for (int season = 0; season < SEASONS; season++) {
                if (Integer.bitCount(fitting[season]) == 1) {
                    set |= 1 << season;
                }
            }
            return set;
        }

        private int pullsFor(long weight) {
            int set = 0;
            for (int pull = 1; pull <= MOST_PULL; pull++) {
                if (Ground.weight(kind, pull, mass) == weight) {
                    set |= 1 << pull;
                }
            }
            return set;
        }
    }

    /** Rows that may be missing, each of one lane; items are held as longs and cut as their lane asks. */
    private static final class Sheets {
        static final int MOST_ITEMS = 24;
        private static final int SHEETS = 4;
        private static final int LANES = 3;
        private static final int SHORTS = 0, INTS = 1;

        final long[][] rows = new long[SHEETS][MOST_ITEMS];
        final int[] lanes = new int[SHEETS];
        private final int[] lengths = new int[SHEETS];
        private final boolean[] present = new boolean[SHEETS];

        static boolean isSheet(int sheet) {
            return sheet >= 0 && sheet < SHEETS;
        }

        static boolean isLane(int sheet, int lane) {
            return isSheet(sheet) && lane >= 0 && lane < LANES;
        }

        boolean isMissing(int sheet) {
            return !present[sheet];
        }

        /** NULL, CAST, INDEX, or 0: n items of the sheet from i on can be taken as a row of the lane. */
        int fault(int sheet, int lane, int i, int n) {
            if (isMissing(sheet)) {
                return NULL;
            }
            if (lanes[sheet] != lane) {
                return CAST;
            }
            return holds(sheet, i, n) ? 0 : INDEX;
        }

        boolean holds(int sheet, int i, int n) {
            return i >= 0 && n >= 0 && i <= lengths[sheet] - n;
        }

        void renew(int sheet, int lane, int n) {
            Arrays.fill(rows[sheet], 0);
            lanes[sheet] = lane;
            lengths[sheet] = n;
            present[sheet] = true;
        }

        int empty(int sheet) {
            present[sheet] = false;
            return lengths[sheet];
        }

        void put(int sheet, int i, long v) {
            if (lanes[sheet] == SHORTS) {
                rows[sheet][i] = (short) v;
            } else {
                rows[sheet][i] = lanes[sheet] == INTS ? (int) v : v;
            }
        }
    }
}
