import java.util.ArrayList;
import java.util.Arrays;
import java.util.HashMap;
import java.util.List;
import java.util.Map;
import java.util.Random;

/**
 * Random runs of calls, answered by the class and by a slow oracle that tries out all ways, orders, rows
 * and stones as the document's words tell them. Prints every answer that differs.
 */
public final class OracleTest {
    private static final int RUNS = 500;
    private static final int CALLS = 512;
    private static final long SEED = 20261118L;

    private static final String[] NAMES = {"parish", "pull", "road", "toll", "cart", "good", "hang", "person", "of",
        "told", "weighs", "type", "land", "count", "weeks", "way", "net", "market", "trade", "scales", "take",
        "councils", "league", "upper", "lower", "change", "well", "image", "restore", "beam", "book", "mills",
        "film", "sheet", "drop", "item", "copy"};
    /** How often each call is drawn. */
    private static final int[] OFTEN = {2, 12, 6, 6, 2, 4, 12, 4, 10, 10, 8, 1, 1, 10, 6, 18, 10, 8, 8, 6, 6, 1, 8,
        2, 2, 10, 6, 2, 2, 8, 8, 6, 4, 3, 1, 8, 6};
    /** Told things that every run of the test must have met, so that it does not pass by meeting nothing. */
    private static final String[] MUST_MEET = {"beam/0 pos", "beam/0 neg", "beam/1 pos", "beam/1 0", "beam/1 NONE",
        "book/0 pos", "book/0 0", "book/1 pos", "book/1 NONE", "book/2 pos", "book/2 NONE", "councils/0 pos",
        "councils/0 0", "councils/1 NONE", "league pos", "upper pos", "way/-1 pos", "way/3 pos", "way/5 pos",
        "trade/0 pos", "trade/0 neg", "scales pos", "change/0 pos", "change/1 pos", "land pos", "land fault",
        "restore pos", "film pos", "copy pos", "mills pos", "take pos", "hang NOT", "road NOT", "road FULL",
        "weeks pos", "net neg", "net NONE", "market NONE", "lower pos", "well NONE", "type FULL", "parish FULL"};

    private static final Map<String, Integer> MET = new HashMap<>();

    private OracleTest() {
    }

    public static void main(String[] args) {
        int wrong = 0;
        int first = args.length > 0 ? Integer.parseInt(args[0]) : 0;
        int runs = args.length > 1 ? Integer.parseInt(args[1]) : RUNS;
        for (int run = first; run < first + runs && wrong < 10; run++) {
            wrong += new Run(new Random(SEED + run), run).isRight() ? 0 : 1;
        }
        for (String due : MUST_MEET) {
            if (!MET.containsKey(due)) {
                wrong++;
                System.out.println("no run met: " + due);
            }
        }
        if (args.length > 2) {
            System.out.println(new java.util.TreeMap<>(MET));
        }
        System.out.println(wrong == 0 ? "oracle: all answers are as due" : "oracle: " + wrong + " wrong");
        System.exit(wrong == 0 ? 0 : 1);
    }

    /** One object of the class beside one oracle. */
    private static final class Run {
        private final Random random;
        private final int number;
        private final ParishPull x = new ParishPull();
        private final Oracle y = new Oracle();
        private final List<String> log = new ArrayList<>();
        private boolean right = true;

        Run(Random random, int number) {
            this.random = random;
            this.number = number;
        }

        boolean isRight() {
            if (random.nextInt(8) > 0) {
                fill();
            }
            if (random.nextInt(60) == 0) {
                overfillTape();
            }
            while (right && log.size() < CALLS) {
                int call = draw();
                if (NAMES[call].equals("land")) {
                    typeText(landText(random));
                }
                long[] a = arguments(call, random, y);
                if (random.nextInt(10) > 0) {
                    prepare(call, a);
                }
                step(NAMES[call], a);
            }
            return right;
        }

        private void overfillTape() {
            for (int k = 0; k < 122; k++) {
                step("type", random.nextInt(3) == 0 ? ' ' : ',');
            }
        }

        /** A land with roads and all else, so that what follows has something to work on. */
        private void fill() {
            boolean seas = random.nextInt(3) == 0;
            int parishes = 2 + random.nextInt(7);
            for (int k = 0; k < parishes; k++) {
                step("parish", seas ? random.nextInt(4) : random.nextInt(3) == 0 ? 3 : random.nextInt(2));
                step("pull", k, 0, 1 + random.nextInt(9));
            }
            int roads = random.nextInt(20);
            int tolls = 1 + random.nextInt(10);
            for (int k = 0; k < roads; k++) {
                step("road", random.nextInt(parishes), random.nextInt(parishes), random.nextInt(tolls));
            }
            for (int k = 0; k < 4; k++) {
                int bears = random.nextInt(3) == 0 ? random.nextInt(1000) : 990;
                step("cart", bears, random.nextInt(4) == 0 ? random.nextInt(100) : random.nextInt(4));
            }
            for (int k = random.nextInt(3); k < 6; k++) {
                step("good", 1 + random.nextInt(99), 1 + random.nextInt(9), random.nextInt(parishes));
                step("person", 1 + random.nextInt(99), random.nextInt(parishes));
            }
            for (int k = random.nextInt(2); k < 4; k++) {
                step("sheet", k, random.nextInt(3), 24 - random.nextInt(8));
            }
        }

        /** Writes items that the call can use, by calls of its own. */
        private void prepare(int call, long[] a) {
            switch (NAMES[call]) {
                case "beam":
                    for (int k = 0; k < a[5] && k < 8; k++) {
                        step("item", a[2], a[3], a[4] + 2 * k, 1 + random.nextInt(random.nextBoolean() ? 99 : 3));
                        int place = random.nextInt(25) == 0 ? 0 : 1 + random.nextInt(6);
                        step("item", a[2], a[3], a[4] + 2 * k + 1, random.nextBoolean() ? place : -place);
                    }
                    break;
                case "book":
                    writeBook(a);
                    break;
                case "mills":
                    for (int k = 0; k < a[3] && k < 8; k++) {
                        step("item", a[0], a[1], a[2] + 2 * k, random.nextInt(Math.max(1, y.kinds.size())));
                        step("item", a[0], a[1], a[2] + 2 * k + 1, random.nextInt(100));
                    }
                    break;
                default:
                    break;
            }
        }

        private void writeBook(long[] a) {
            if (!y.isParish(a[0]) || !Oracle.in(a[1], 1, 99) || !Oracle.in(a[2], 0, 9975)) {
                return;
            }
            int[] hidden = new int[4];
            for (int s = 0; s < 4; s++) {
                hidden[s] = 1 + random.nextInt(9);
            }
            for (int k = 0; k < a[6] && k < 24; k++) {
                int season = ((int) a[2] + k) / 13 % 4;
                long v = Oracle.weightBy(y.kinds.get((int) a[0]), hidden[season], (int) a[1]);
                int way = random.nextInt(40);
                step("item", a[3], a[4], a[5] + k, way == 0 ? v + 1 : way < 8 ? -1 - random.nextInt(9) : v);
            }
        }

        private void typeText(String text) {
            for (int k = 0; k < text.length(); k++) {
                step("type", text.charAt(k));
            }
        }

        private void step(String name, long... a) {
            if (!right || log.size() >= CALLS) {
                return;
            }
            int call = Arrays.asList(NAMES).indexOf(name);
            String text = name + Arrays.toString(a);
            long due = y.answer(call, a);
            meet(name, a, due);
            log.add(text + " = " + due);
            try {
                long got = answer(x, call, a);
                right = got == due;
                text += " answered " + got;
            } catch (RuntimeException e) {
                right = false;
                text += " threw " + e;
            }
            if (!right) {
                System.out.println("run " + number + ": " + text + ", due is " + due + "; the calls ahead of it:");
                for (String line : log) {
                    System.out.println("    " + line);
                }
            }
        }

        private static void meet(String name, long[] a, long due) {
            boolean many = Arrays.asList("beam", "book", "councils", "way", "trade", "change").contains(name);
            String key = many && due != -1 && due != -1000001 ? name + "/" + a[a.length - 1] : name;
            boolean lowered = Arrays.asList("net", "trade", "league", "upper", "beam").contains(name);
            long plain = lowered ? due + 1000000 : due;
            String[] refused = {"", "BAD", "NOT", "FULL", "NONE"};
            String kind = due > 0 ? "pos" : due == 0 ? "0" : plain > 0 ? "neg" : plain <= -20 ? "fault"
                    : plain >= -4 ? refused[(int) -plain] : "row";
            MET.merge(key + " " + kind, 1, Integer::sum);
        }

        private int draw() {
            int sum = 0;
            for (int often : OFTEN) {
                sum += often;
            }
            int at = random.nextInt(sum);
            for (int call = 0; call < OFTEN.length; call++) {
                at -= OFTEN[call];
                if (at < 0) {
                    return call;
                }
            }
            return 0;
        }
    }

    private static String landText(Random random) {
        StringBuilder text = new StringBuilder();
        int parishes = random.nextInt(12) == 0 ? 9 : 1 + random.nextInt(8);
        boolean sparse = random.nextBoolean();
        for (int k = 0; k < parishes; k++) {
            text.append(k > 0 ? "," : "").append("lhsa".charAt(random.nextInt(4)));
            if (random.nextInt(sparse ? 9 : 2) == 0) {
                for (int j = 0; j < 4; j++) {
                    text.append(1 + random.nextInt(9));
                }
            }
        }
        if (parishes > 1 && random.nextInt(5) > 0) {
            boolean[] used = new boolean[100];
            int roads = random.nextInt(6) == 0 ? 16 : 1 + random.nextInt(15);
            int told = 0;
            for (int k = 0; k < 60 && told < roads; k++) {
                int a = random.nextInt(parishes);
                int b = random.nextInt(parishes);
                if ((a != b && !used[a * 10 + b] && !used[b * 10 + a]) || random.nextInt(150) == 0) {
                    used[a * 10 + b] = true;
                    text.append(told == 0 ? ";" : ",").append(a).append(b);
                    if (random.nextInt(3) > 0) {
                        text.append('t').append(random.nextInt(10));
                    }
                    told++;
                }
            }
        }
        int faults = random.nextInt(3) == 0 ? 1 + random.nextInt(3) : 0;
        for (int k = 0; k < faults && text.length() > 0; k++) {
            int at = random.nextInt(text.length());
            switch (random.nextInt(4)) {
                case 0:
                    text.deleteCharAt(at);
                    break;
                case 1:
                    text.setCharAt(at, "lhsat,;0123456789 x".charAt(random.nextInt(19)));
                    break;
                case 2:
                    text.insert(at, "lhsat,;0123456789 x".charAt(random.nextInt(19)));
                    break;
                default:
                    text.setLength(at);
                    break;
            }
        }
        int blanks = random.nextInt(3) == 0 ? random.nextInt(6) : 0;
        for (int k = 0; k < blanks; k++) {
            text.insert(random.nextInt(text.length() + 1), ' ');
        }
        return text.toString();
    }

    /** Mostly a number of the range, sometimes one just outside it, seldom a wild one. */
    private static int number(Random random, int least, int most) {
        int way = random.nextInt(120);
        if (way == 0) {
            return least - 1;
        }
        if (way == 1) {
            return most + 1;
        }
        if (way == 2) {
            return random.nextInt();
        }
        if (way == 3) {
            return random.nextBoolean() ? Integer.MAX_VALUE : Integer.MIN_VALUE;
        }
        if (way < 12) {
            return random.nextBoolean() ? least : most;
        }
        return most <= least ? least : least + random.nextInt(most - least + 1);
    }

    private static long[] arguments(int call, Random r, Oracle y) {
        int p = y.kinds.size() - 1;
        int c = y.carts.size() - 1;
        int g = y.goods.size() - 1;
        int all = (1 << y.kinds.size()) - 1;
        int sheet = number(r, 0, 3);
        int lane = y.laneFor(sheet, r);
        switch (NAMES[call]) {
            case "parish":
                return new long[] {number(r, 0, 3)};
            case "pull":
                return new long[] {number(r, 0, p), number(r, 0, 3), number(r, 1, 9)};
            case "road":
                return new long[] {number(r, 0, p), number(r, 0, p), number(r, 0, 9)};
            case "toll":
                return new long[] {number(r, 0, y.roads.size() - 1), number(r, 0, 9)};
            case "cart":
                return new long[] {r.nextInt(3) == 0 ? number(r, 0, 999) : number(r, 200, 999),
                    r.nextInt(3) == 0 ? 0 : number(r, 0, r.nextBoolean() ? 9 : 99)};
            case "good":
                return new long[] {number(r, 1, 99), number(r, 1, 9), number(r, 0, p)};
            case "hang":
                return new long[] {number(r, 0, g), r.nextInt(4) == 0 ? 0 : number(r, 0, 999)};
            case "person":
                return new long[] {number(r, 1, 99), number(r, 0, p)};
            case "of":
                return new long[] {number(r, 0, p), number(r, 0, 7)};
            case "told":
                return new long[] {number(r, 0, r.nextInt(15)), number(r, 0, 10)};
            case "weighs":
                return new long[] {number(r, 0, p), number(r, 1, 99)};
            case "type":
                return new long[] {number(r, 32, 126)};
            case "count":
                return new long[] {number(r, 0, 7)};
            case "weeks":
                return new long[] {r.nextInt(3) == 0 ? number(r, 1, 52) : number(r, 1, 3)};
            case "way":
                return new long[] {number(r, 0, c), number(r, 1, 99), number(r, 0, p), number(r, 0, p),
                    number(r, -1, r.nextBoolean() ? 3 : 7)};
            case "net":
                return new long[] {number(r, 0, g), number(r, 0, p), number(r, 0, c)};
            case "market":
            case "scales":
                return new long[] {number(r, 0, g), number(r, 0, c)};
            case "trade":
                return new long[] {number(r, 0, g), number(r, 0, c), number(r, 0, 1)};
            case "take":
                return new long[] {number(r, 0, p), number(r, 0, c)};
            case "councils":
                return new long[] {number(r, 0, p), number(r, 0, p), number(r, 0, c), number(r, 0, 1)};
            case "league":
                return new long[] {number(r, 0, all), number(r, 0, c)};
            case "upper":
            case "lower":
                return new long[] {number(r, 0, p), r.nextInt(4) == 0 ? all : number(r, 0, all), number(r, 0, c)};
            case "change":
                return new long[] {number(r, 0, p), number(r, 1, 9), number(r, 0, 1)};
            case "well":
                return new long[] {number(r, 0, p), number(r, 1, 999)};
            case "beam":
                return new long[] {number(r, 0, p), number(r, 0, p), sheet, lane, number(r, 0, 4),
                    r.nextInt(9) == 0 ? number(r, 0, 8) : number(r, 0, 2), number(r, 0, 1)};
            case "book":
                return new long[] {number(r, 0, p), r.nextInt(3) == 0 ? number(r, 1, 99) : number(r, 1, 3),
                    number(r, 0, 9975), sheet, lane, number(r, 0, 6), number(r, 1, r.nextInt(4) == 0 ? 24 : 6),
                    number(r, 0, 2)};
            case "mills":
                return new long[] {sheet, lane, number(r, 0, 6), number(r, 1, r.nextInt(4) == 0 ? 8 : 3)};
            case "film":
                return new long[] {sheet, lane, number(r, 0, 20)};
            case "sheet":
                return new long[] {sheet, number(r, 0, 2), r.nextInt(3) == 0 ? number(r, 0, 24) : number(r, 12, 24)};
            case "drop":
                return new long[] {sheet};
            case "item":
                return new long[] {sheet, lane, number(r, 0, 24), value(r)};
            case "copy":
                return new long[] {number(r, 0, 3), number(r, 0, 24), number(r, 0, 3), number(r, 0, 24),
                    r.nextBoolean() ? number(r, 0, 6) : number(r, 0, 24)};
            default:
                return new long[0];
        }
    }

    private static long value(Random r) {
        switch (r.nextInt(12)) {
            case 0:
                return r.nextLong();
            case 1:
                return 65536L * r.nextInt(9) + r.nextInt(8);
            case 2:
                return (1L << 32) * r.nextInt(9) + r.nextInt(8);
            case 3:
                return number(r, 0, 110);
            case 4:
            case 5:
                return -1 - r.nextInt(7);
            case 6:
            case 7:
                return r.nextInt(30);
            default:
                return r.nextInt(8);
        }
    }

    private static long answer(ParishPull x, int call, long[] a) {
        int[] n = new int[8];
        for (int k = 0; k < a.length; k++) {
            n[k] = (int) a[k];
        }
        switch (NAMES[call]) {
            case "parish":
                return x.parish(n[0]);
            case "pull":
                return x.pull(n[0], n[1], n[2]);
            case "road":
                return x.road(n[0], n[1], n[2]);
            case "toll":
                return x.toll(n[0], n[1]);
            case "cart":
                return x.cart(n[0], n[1]);
            case "good":
                return x.good(n[0], n[1], n[2]);
            case "hang":
                return x.hang(n[0], n[1]);
            case "person":
                return x.person(n[0], n[1]);
            case "of":
                return x.of(n[0], n[1]);
            case "told":
                return x.told(n[0], n[1]);
            case "weighs":
                return x.weighs(n[0], n[1]);
            case "type":
                return x.type(n[0]);
            case "land":
                return x.land();
            case "count":
                return x.count(n[0]);
            case "weeks":
                return x.weeks(n[0]);
            case "way":
                return x.way(n[0], n[1], n[2], n[3], n[4]);
            case "net":
                return x.net(n[0], n[1], n[2]);
            case "market":
                return x.market(n[0], n[1]);
            case "trade":
                return x.trade(n[0], n[1], n[2]);
            case "scales":
                return x.scales(n[0], n[1]);
            case "take":
                return x.take(n[0], n[1]);
            case "councils":
                return x.councils(n[0], n[1], n[2], n[3]);
            case "league":
                return x.league(n[0], n[1]);
            case "upper":
                return x.upper(n[0], n[1], n[2]);
            case "lower":
                return x.lower(n[0], n[1], n[2]);
            case "change":
                return x.change(n[0], n[1], n[2]);
            case "well":
                return x.well(n[0], n[1]);
            case "image":
                return x.image();
            case "restore":
                return x.restore();
            case "beam":
                return x.beam(n[0], n[1], n[2], n[3], n[4], n[5], n[6]);
            case "book":
                return x.book(n[0], n[1], n[2], n[3], n[4], n[5], n[6], n[7]);
            case "mills":
                return x.mills(n[0], n[1], n[2], n[3]);
            case "film":
                return x.film(n[0], n[1], n[2]);
            case "sheet":
                return x.sheet(n[0], n[1], n[2]);
            case "drop":
                return x.drop(n[0]);
            case "item":
                return x.item(n[0], n[1], n[2], a[3]);
            default:
                return x.copy(n[0], n[1], n[2], n[3], n[4]);
        }
    }

    /** The document's words, tried out one by one. */
    private static final class Oracle {
        List<Integer> kinds = new ArrayList<>();
        List<int[]> pulls = new ArrayList<>();
        List<int[]> roads = new ArrayList<>();
        List<int[]> carts = new ArrayList<>();
        List<int[]> goods = new ArrayList<>();
        List<int[]> people = new ArrayList<>();
        int week;
        Oracle kept;
        String tape = "";
        final Object[] sheets = new Object[4];

        int laneFor(int sheet, Random r) {
            if (sheet < 0 || sheet > 3 || sheets[sheet] == null || r.nextInt(15) == 0) {
                return number(r, 0, 2);
            }
            return lane(sheets[sheet]);
        }

        static int lane(Object row) {
            return row instanceof short[] ? 0 : row instanceof int[] ? 1 : 2;
        }

        static int length(Object row) {
            return java.lang.reflect.Array.getLength(row);
        }

        static long at(Object row, int i) {
            return java.lang.reflect.Array.getLong(row, i);
        }

        static void put(Object row, int i, long v) {
            if (row instanceof short[]) {
                ((short[]) row)[i] = (short) v;
            } else if (row instanceof int[]) {
                ((int[]) row)[i] = (int) v;
            } else {
                ((long[]) row)[i] = v;
            }
        }

        boolean isParish(long p) {
            return p >= 0 && p < kinds.size();
        }

        static boolean in(long v, long least, long most) {
            return v >= least && v <= most;
        }

        int season() {
            return (week / 13) % 4;
        }

        static int weightBy(int kind, int pull, int mass) {
            int land = mass * pull;
            int hill = land + mass;
            return kind == 0 ? land : kind == 1 ? hill : kind == 2 ? 0 : hill / 2;
        }

        int weight(int p, int mass) {
            return weightBy(kinds.get(p), pulls.get(p)[season()], mass);
        }

        int roadOf(int a, int b) {
            for (int k = 0; k < roads.size(); k++) {
                int[] road = roads.get(k);
                if ((road[0] == a && road[1] == b) || (road[0] == b && road[1] == a)) {
                    return k;
                }
            }
            return -1;
        }

        int type(int letter) {
            if (tape.length() == 120) {
                return -3;
            }
            tape += (char) letter;
            return tape.length();
        }

        /** All simple ways, depth first; the best one so far is {cost, row as a text}. */
        int bestCost;
        String bestRow;

        void findWay(int[] cart, int mass, int from, int to, int league) {
            bestCost = Integer.MAX_VALUE;
            bestRow = null;
            if (weight(from, mass) <= cart[0]) {
                goOn(cart, mass, "" + from, to, league, 0);
            }
        }

        private void goOn(int[] cart, int mass, String row, int to, int league, int cost) {
            int here = row.charAt(row.length() - 1) - '0';
            if (here == to) {
                if (cost < bestCost || (cost == bestCost && row.compareTo(bestRow) < 0)) {
                    bestCost = cost;
                    bestRow = row;
                }
                return;
            }
            for (int p = 0; p < kinds.size(); p++) {
                int road = roadOf(here, p);
                if (road >= 0 && row.indexOf('0' + p) < 0 && weight(p, mass) <= cart[0]) {
                    int toll = (league >> here & 1) == 1 && (league >> p & 1) == 1 ? 0 : roads.get(road)[2];
                    goOn(cart, mass, row + p, to, league, cost + cart[1] + toll * weight(here, mass) / 10);
                }
            }
        }

        Integer netOf(int[] good, int p, int[] cart, int league) {
            findWay(cart, good[0], good[2], p, league);
            return bestRow == null ? null : (Integer) (good[1] * weight(p, good[0]) - bestCost);
        }

        int[] marketOf(int[] good, int[] cart, int league) {
            int[] best = null;
            for (int p = 0; p < kinds.size(); p++) {
                Integer net = netOf(good, p, cart, league);
                if (net != null && (best == null || net > best[1])) {
                    best = new int[] {p, net};
                }
            }
            return best;
        }

        int takeOf(int p, int[] cart) {
            int take = 0;
            for (int[] good : goods) {
                int[] market = marketOf(good, cart, 0);
                take += market != null && market[0] == p ? 1 : 0;
            }
            return take;
        }

        int worth(int set, int[] cart) {
            int sum = 0;
            for (int[] good : goods) {
                int[] with = marketOf(good, cart, set);
                int[] without = marketOf(good, cart, 0);
                sum += with == null ? 0 : with[1] - without[1];
            }
            return sum;
        }

        long[] part(int p, int set, int[] cart) {
            List<Integer> members = new ArrayList<>();
            for (int k = 0; k < 8; k++) {
                if ((set >> k & 1) == 1) {
                    members.add(k);
                }
            }
            long[] sum = new long[2];
            orders(members, 0, p, cart, new HashMap<>(), sum);
            long common = 1;
            for (long d = 1; d <= sum[1]; d++) {
                if (sum[0] % d == 0 && sum[1] % d == 0) {
                    common = d;
                }
            }
            return new long[] {sum[0] / common, sum[1] / common};
        }

        private void orders(List<Integer> left, int come, int p, int[] cart, Map<Integer, Integer> worths,
                long[] sum) {
            for (int k = 0; k < left.size(); k++) {
                int next = left.get(k);
                if (next == p) {
                    long orders = 1;
                    for (int j = 2; j < left.size(); j++) {
                        orders *= j;
                    }
                    sum[1] += orders;
                    sum[0] += orders * (memo(come | 1 << p, cart, worths) - memo(come, cart, worths));
                } else {
                    List<Integer> rest = new ArrayList<>(left);
                    rest.remove(k);
                    orders(rest, come | 1 << next, p, cart, worths, sum);
                }
            }
        }

        private int memo(int set, int[] cart, Map<Integer, Integer> worths) {
            if (!worths.containsKey(set)) {
                worths.put(set, worth(set, cart));
            }
            return worths.get(set);
        }

        int[] bestTrade(int[] good, int[] cart, int scales) {
            int[] best = null;
            for (int a = 0; a < kinds.size(); a++) {
                for (int b = 0; b < kinds.size(); b++) {
                    if (a != b) {
                        findWay(cart, good[0], a, b, 0);
                        if (bestRow != null) {
                            int bought = good[1] * ((scales >> a & 1) == 1 ? 5 * good[0] : weight(a, good[0]));
                            int sold = good[1] * ((scales >> b & 1) == 1 ? 5 * good[0] : weight(b, good[0]));
                            int gain = sold - bought - bestCost;
                            if (best == null || gain > best[0]) {
                                best = new int[] {gain, 10 * a + b};
                            }
                        }
                    }
                }
            }
            return best;
        }

        int law(int[] good, int[] cart) {
            int[] cost = new int[64];
            for (int a = 0; a < kinds.size(); a++) {
                for (int b = 0; b < kinds.size(); b++) {
                    findWay(cart, good[0], a, b, 0);
                    cost[a * 8 + b] = bestRow == null ? 1 << 28 : bestCost;
                }
            }
            for (int size = 0; size <= kinds.size(); size++) {
                for (int set = 0; set < 1 << kinds.size(); set++) {
                    if (Integer.bitCount(set) == size && ends(good, cost, set)) {
                        return set;
                    }
                }
            }
            return -99;
        }

        private boolean ends(int[] good, int[] cost, int set) {
            for (int a = 0; a < kinds.size(); a++) {
                for (int b = 0; b < kinds.size(); b++) {
                    int bought = (set >> a & 1) == 1 ? 5 * good[0] : weight(a, good[0]);
                    int sold = (set >> b & 1) == 1 ? 5 * good[0] : weight(b, good[0]);
                    if (a != b && good[1] * sold - good[1] * bought - cost[a * 8 + b] > 0) {
                        return false;
                    }
                }
            }
            return true;
        }

        long councils(int a, int b, int[] cart, int what) {
            int s = season();
            int oldA = pulls.get(a)[s];
            int oldB = pulls.get(b)[s];
            int[][] takeA = new int[10][10];
            int[][] takeB = new int[10][10];
            for (int i = 1; i <= 9; i++) {
                for (int j = 1; j <= 9; j++) {
                    pulls.get(a)[s] = i;
                    pulls.get(b)[s] = j;
                    takeA[i][j] = takeOf(a, cart);
                    takeB[i][j] = takeOf(b, cart);
                }
            }
            pulls.get(a)[s] = oldA;
            pulls.get(b)[s] = oldB;
            int rests = 0;
            int first = -4;
            for (int i = 1; i <= 9; i++) {
                for (int j = 1; j <= 9; j++) {
                    boolean rest = true;
                    for (int k = 1; k <= 9; k++) {
                        rest &= takeA[k][j] <= takeA[i][j] && takeB[i][k] <= takeB[i][j];
                    }
                    if (rest) {
                        first = rests == 0 ? 10 * i + j : first;
                        rests++;
                    }
                }
            }
            return what == 0 ? rests : first;
        }

        long even(int turning, int left, int right) {
            int reach = 30 * 6 * 10;
            if (turning > reach || turning < -reach) {
                return -1000004;
            }
            boolean[] now = new boolean[2 * reach + 1];
            now[reach + turning] = true;
            for (int stones = 0; stones <= 30; stones++) {
                if (now[reach]) {
                    return stones;
                }
                boolean[] then = new boolean[2 * reach + 1];
                for (int v = 0; v < now.length; v++) {
                    for (int far = 1; now[v] && far <= 6; far++) {
                        if (v - far * left >= 0) {
                            then[v - far * left] = true;
                        }
                        if (v + far * right < then.length) {
                            then[v + far * right] = true;
                        }
                    }
                }
                now = then;
            }
            return -1000004;
        }

        long book(int kind, int mass, int first, long[] items, int what) {
            int rows = 0;
            int[] seen = new int[4];
            int longest = 0;
            for (int row = 0; row < 6561; row++) {
                int[] pull = {row % 9 + 1, row / 9 % 9 + 1, row / 81 % 9 + 1, row / 729 + 1};
                int fits = 0;
                while (fits < items.length && (items[fits] < 0
                        || items[fits] == weightBy(kind, pull[(first + fits) / 13 % 4], mass))) {
                    fits++;
                }
                longest = Math.max(longest, fits);
                if (fits == items.length) {
                    rows++;
                    for (int s = 0; s < 4; s++) {
                        seen[s] |= 1 << pull[s];
                    }
                }
            }
            if (what == 0) {
                return rows;
            }
            if (what == 2) {
                return longest == items.length ? -4 : longest;
            }
            int sure = 0;
            for (int s = 0; s < 4; s++) {
                sure |= Integer.bitCount(seen[s]) == 1 ? 1 << s : 0;
            }
            return rows == 0 ? -4 : sure;
        }

        /** The text without blanks, each letter with its place, walked by a table of what may come next. */
        long land() {
            StringBuilder letters = new StringBuilder();
            List<Integer> places = new ArrayList<>();
            for (int k = 0; k < tape.length(); k++) {
                if (tape.charAt(k) != ' ') {
                    letters.append(tape.charAt(k));
                    places.add(k);
                }
            }
            places.add(tape.length());
            tape = "";
            List<Integer> newKinds = new ArrayList<>();
            List<int[]> newPulls = new ArrayList<>();
            List<int[]> newRoads = new ArrayList<>();
            char state = 'K';
            int digits = 0;
            int first = -1;
            for (int k = 0; k <= letters.length(); k++) {
                char c = k < letters.length() ? letters.charAt(k) : '$';
                boolean kindDone = state == 'k' || state == 'p' && digits == 4;
                boolean roadDone = state == 'r' || state == 'd';
                int d = c >= '0' && c <= '9' ? c - '0' : -1;
                if (state == 'K' && c != '$' && "lhsa".indexOf(c) >= 0) {
                    newKinds.add("lhsa".indexOf(c));
                    newPulls.add(new int[] {5, 5, 5, 5});
                    state = 'k';
                } else if ((state == 'k' || state == 'p' && digits < 4) && d >= 1) {
                    digits = state == 'k' ? 0 : digits;
                    newPulls.get(newPulls.size() - 1)[digits++] = d;
                    state = 'p';
                } else if (kindDone && c == ',' && newKinds.size() < 8) {
                    state = 'K';
                } else if (kindDone && c == ';') {
                    state = 'A';
                } else if (state == 'A' && d >= 0 && d < newKinds.size()) {
                    first = d;
                    state = 'B';
                } else if (state == 'B' && d >= 0 && d < newKinds.size() && d != first && !has(newRoads, first, d)) {
                    newRoads.add(new int[] {Math.min(first, d), Math.max(first, d), 0});
                    state = 'r';
                } else if (state == 'r' && c == 't') {
                    state = 'T';
                } else if (state == 'T' && d >= 0) {
                    newRoads.get(newRoads.size() - 1)[2] = d;
                    state = 'd';
                } else if (roadDone && c == ',' && newRoads.size() < 15) {
                    state = 'A';
                } else if ((kindDone || roadDone) && c == '$') {
                    state = '$';
                } else {
                    return -20 - places.get(k);
                }
            }
            kinds = newKinds;
            pulls = newPulls;
            roads = newRoads;
            goods = new ArrayList<>();
            people = new ArrayList<>();
            return kinds.size();
        }

        private static boolean has(List<int[]> roads, int a, int b) {
            for (int[] road : roads) {
                if (road[0] == Math.min(a, b) && road[1] == Math.max(a, b)) {
                    return true;
                }
            }
            return false;
        }

        long weeks(int n) {
            if (!in(n, 1, 52)) {
                return -1;
            }
            if (week + n > 9999) {
                return -3;
            }
            int falls = 0;
            int goes = 0;
            for (int k = 0; k < n; k++) {
                week++;
                for (int[] person : people) {
                    int best = -1;
                    for (int p = 0; p < kinds.size(); p++) {
                        if (roadOf(person[1], p) >= 0
                                && (best < 0 || weight(p, person[0]) < weight(best, person[0]))) {
                            best = p;
                        }
                    }
                    if (best >= 0 && weight(best, person[0]) < weight(person[1], person[0])) {
                        person[1] = best;
                        goes++;
                    }
                }
                for (int[] good : goods) {
                    if (good[3] > 0 && weight(good[2], good[0]) > good[3]) {
                        good[3] = 0;
                        falls++;
                    }
                }
            }
            return falls + 100 * goes;
        }

        Oracle copyOf() {
            Oracle copy = new Oracle();
            copy.take(this);
            return copy;
        }

        void take(Oracle other) {
            kinds = new ArrayList<>(other.kinds);
            pulls = deep(other.pulls);
            roads = deep(other.roads);
            carts = deep(other.carts);
            goods = deep(other.goods);
            people = deep(other.people);
            week = other.week;
        }

        private static List<int[]> deep(List<int[]> list) {
            List<int[]> copy = new ArrayList<>();
            for (int[] row : list) {
                copy.add(row.clone());
            }
            return copy;
        }

        private long told(long n, long what) {
            if (in(what, 0, 2)) {
                return in(n, 0, roads.size() - 1) ? roads.get((int) n)[(int) what] : -1;
            }
            if (in(what, 3, 4)) {
                return in(n, 0, carts.size() - 1) ? carts.get((int) n)[(int) what - 3] : -1;
            }
            if (in(what, 5, 8)) {
                return in(n, 0, goods.size() - 1) ? goods.get((int) n)[(int) what - 5] : -1;
            }
            if (in(what, 9, 10)) {
                return in(n, 0, people.size() - 1) ? people.get((int) n)[(int) what - 9] : -1;
            }
            return -1;
        }

        private long of(int p, long what) {
            if (!isParish(p) || !in(what, 0, 7)) {
                return -1;
            }
            if (what == 0) {
                return kinds.get(p);
            }
            if (what <= 4) {
                return pulls.get(p)[(int) what - 1];
            }
            int answer = 0;
            if (what == 5) {
                for (int q = 0; q < kinds.size(); q++) {
                    answer += roadOf(p, q) >= 0 ? 1 : 0;
                }
                return answer;
            }
            List<int[]> list = what == 6 ? goods : people;
            for (int k = 0; k < list.size(); k++) {
                answer |= list.get(k)[what == 6 ? 2 : 1] == p ? 1 << k : 0;
            }
            return answer;
        }

        private long change(int p, long v, long what) {
            if (!isParish(p) || !in(v, 1, 9) || !in(what, 0, 1)) {
                return -1;
            }
            int s = season();
            int old = pulls.get(p)[s];
            int set = 0;
            List<int[]> list = what == 0 ? goods : people;
            for (int k = 0; k < list.size(); k++) {
                int[] thing = list.get(k);
                int where = what == 0 ? thing[2] : thing[1];
                int before = weight(where, thing[0]);
                pulls.get(p)[s] = (int) v;
                int after = weight(where, thing[0]);
                pulls.get(p)[s] = old;
                boolean counts = what == 0 ? where == p && thing[3] > 0 && after > thing[3] : after < before;
                set |= counts ? 1 << k : 0;
            }
            return set;
        }

        private long count(long what) {
            int hang = 0;
            for (int[] good : goods) {
                hang += good[3] > 0 ? 1 : 0;
            }
            long[] all = {kinds.size(), roads.size(), carts.size(), goods.size(), people.size(), week, season(), hang};
            return in(what, 0, 7) ? all[(int) what] : -1;
        }

        private long fault(int sheet, int lane, int i, int n) {
            Object row = sheets[sheet];
            return row == null ? -11 : lane(row) != lane ? -12
                    : i < 0 || n < 0 || (long) i + n > length(row) ? -13 : 0;
        }

        private long beam(int[] a) {
            if (!isParish(a[0]) || !isParish(a[1]) || !in(a[2], 0, 3) || !in(a[3], 0, 2) || !in(a[5], 0, 8)
                    || !in(a[6], 0, 1)) {
                return -1000001;
            }
            long fault = fault(a[2], a[3], a[4], 2 * a[5]);
            if (fault < 0) {
                return fault - 1000000;
            }
            int turning = 0;
            for (int k = 0; k < a[5]; k++) {
                long mass = at(sheets[a[2]], a[4] + 2 * k);
                long place = at(sheets[a[2]], a[4] + 2 * k + 1);
                if (!in(mass, 1, 99) || !(in(place, 1, 6) || in(place, -6, -1))) {
                    return -1000002;
                }
                turning += place > 0 ? weight(a[1], (int) mass) * place : -(weight(a[0], (int) mass) * -place);
            }
            return a[6] == 0 ? turning : even(turning, weight(a[0], 1), weight(a[1], 1));
        }

        private long mills(int[] a) {
            if (!in(a[0], 0, 3) || !in(a[1], 0, 2) || !in(a[3], 1, 8)) {
                return -1;
            }
            long fault = fault(a[0], a[1], a[2], 2 * a[3]);
            if (fault < 0) {
                return fault;
            }
            long sum = 0;
            for (int k = 0; k < a[3]; k++) {
                long p = at(sheets[a[0]], a[2] + 2 * k);
                long far = at(sheets[a[0]], a[2] + 2 * k + 1);
                if (!isParish(p) || !in(far, 0, 99)) {
                    return -2;
                }
                sum += weight((int) p, 1) * far;
            }
            return sum;
        }

        private long copy(int[] a) {
            if (!in(a[0], 0, 3) || !in(a[2], 0, 3)) {
                return -1;
            }
            if (sheets[a[0]] == null || sheets[a[2]] == null) {
                return -11;
            }
            long fault = fault(a[2], lane(sheets[a[0]]), a[3], a[4]);
            fault = fault < 0 ? fault : fault(a[0], lane(sheets[a[0]]), a[1], a[4]);
            if (fault < 0) {
                return fault;
            }
            System.arraycopy(sheets[a[0]], a[1], sheets[a[2]], a[3], a[4]);
            return a[4];
        }

        long answer(int call, long[] args) {
            int[] a = new int[8];
            for (int k = 0; k < args.length; k++) {
                a[k] = (int) args[k];
            }
            boolean cart2 = in(a[2], 0, carts.size() - 1);
            boolean cart1 = in(a[1], 0, carts.size() - 1);
            boolean good0 = in(a[0], 0, goods.size() - 1);
            boolean set1 = in(a[1], 0, (1 << kinds.size()) - 1);
            switch (NAMES[call]) {
                case "parish":
                    if (!in(a[0], 0, 3)) {
                        return -1;
                    }
                    if (kinds.size() == 8) {
                        return -3;
                    }
                    kinds.add(a[0]);
                    pulls.add(new int[] {5, 5, 5, 5});
                    return kinds.size() - 1;
                case "pull": {
                    if (!isParish(a[0]) || !in(a[1], 0, 3) || !in(a[2], 1, 9)) {
                        return -1;
                    }
                    int old = pulls.get(a[0])[a[1]];
                    pulls.get(a[0])[a[1]] = a[2];
                    return old;
                }
                case "road":
                    if (!isParish(a[0]) || !isParish(a[1]) || a[0] == a[1] || !in(a[2], 0, 9)) {
                        return -1;
                    }
                    if (roadOf(a[0], a[1]) >= 0) {
                        return -2;
                    }
                    if (roads.size() == 15) {
                        return -3;
                    }
                    roads.add(new int[] {Math.min(a[0], a[1]), Math.max(a[0], a[1]), a[2]});
                    return roads.size() - 1;
                case "toll": {
                    if (!in(a[0], 0, roads.size() - 1) || !in(a[1], 0, 9)) {
                        return -1;
                    }
                    int old = roads.get(a[0])[2];
                    roads.get(a[0])[2] = a[1];
                    return old;
                }
                case "cart":
                    if (!in(a[0], 0, 999) || !in(a[1], 0, 99)) {
                        return -1;
                    }
                    return carts.size() == 4 ? -3 : add(carts, a[0], a[1]);
                case "good":
                    if (!in(a[0], 1, 99) || !in(a[1], 1, 9) || !isParish(a[2])) {
                        return -1;
                    }
                    return goods.size() == 6 ? -3 : add(goods, a[0], a[1], a[2], 0);
                case "hang": {
                    if (!good0 || !in(a[1], 0, 999)) {
                        return -1;
                    }
                    int[] good = goods.get(a[0]);
                    if (a[1] > 0 && weight(good[2], good[0]) > a[1]) {
                        return -2;
                    }
                    int old = good[3];
                    good[3] = a[1];
                    return old;
                }
                case "person":
                    if (!in(a[0], 1, 99) || !isParish(a[1])) {
                        return -1;
                    }
                    return people.size() == 6 ? -3 : add(people, a[0], a[1]);
                case "of":
                    return of(a[0], a[1]);
                case "told":
                    return told(a[0], a[1]);
                case "weighs":
                    return isParish(a[0]) && in(a[1], 1, 99) ? weight(a[0], a[1]) : -1;
                case "type":
                    return in(a[0], 32, 126) ? type(a[0]) : -1;
                case "land":
                    return land();
                case "count":
                    return count(a[0]);
                case "weeks":
                    return weeks(a[0]);
                case "way":
                    if (!in(a[0], 0, carts.size() - 1) || !in(a[1], 1, 99) || !isParish(a[2]) || !isParish(a[3])
                            || !in(a[4], -1, 7)) {
                        return -1;
                    }
                    findWay(carts.get(a[0]), a[1], a[2], a[3], 0);
                    if (bestRow == null || a[4] >= bestRow.length()) {
                        return -4;
                    }
                    return a[4] < 0 ? bestCost : bestRow.charAt(a[4]) - '0';
                case "net": {
                    if (!good0 || !isParish(a[1]) || !cart2) {
                        return -1000001;
                    }
                    Integer net = netOf(goods.get(a[0]), a[1], carts.get(a[2]), 0);
                    return net == null ? -1000004 : net;
                }
                case "market": {
                    if (!good0 || !cart1) {
                        return -1;
                    }
                    int[] market = marketOf(goods.get(a[0]), carts.get(a[1]), 0);
                    return market == null ? -4 : market[0];
                }
                case "trade": {
                    if (!good0 || !cart1 || !in(a[2], 0, 1)) {
                        return -1000001;
                    }
                    int[] trade = bestTrade(goods.get(a[0]), carts.get(a[1]), 0);
                    return trade == null ? -1000004 : trade[a[2]];
                }
                case "scales":
                    return good0 && cart1 ? law(goods.get(a[0]), carts.get(a[1])) : -1;
                case "take":
                    return isParish(a[0]) && cart1 ? takeOf(a[0], carts.get(a[1])) : -1;
                case "councils":
                    if (!isParish(a[0]) || !isParish(a[1]) || a[0] == a[1] || !cart2 || !in(a[3], 0, 1)) {
                        return -1;
                    }
                    return councils(a[0], a[1], carts.get(a[2]), a[3]);
                case "league":
                    return in(a[0], 0, (1 << kinds.size()) - 1) && cart1 ? worth(a[0], carts.get(a[1])) : -1000001;
                case "upper":
                    return isParish(a[0]) && set1 && cart2 && (a[1] >> a[0] & 1) == 1
                            ? part(a[0], a[1], carts.get(a[2]))[0] : -1000001;
                case "lower":
                    return isParish(a[0]) && set1 && cart2 && (a[1] >> a[0] & 1) == 1
                            ? part(a[0], a[1], carts.get(a[2]))[1] : -1;
                case "change":
                    return change(a[0], a[1], a[2]);
                case "well":
                    if (!isParish(a[0]) || !in(a[1], 1, 999)) {
                        return -1;
                    }
                    return kinds.get(a[0]) == 2 ? -4 : a[1] * weight(a[0], 1);
                case "image":
                    kept = copyOf();
                    return 1;
                case "restore":
                    if (kept == null) {
                        return -4;
                    }
                    take(kept);
                    return 1;
                case "beam":
                    return beam(a);
                case "book": {
                    if (!isParish(a[0]) || !in(a[1], 1, 99) || !in(a[2], 0, 9975) || !in(a[3], 0, 3)
                            || !in(a[4], 0, 2) || !in(a[6], 1, 24) || !in(a[7], 0, 2)) {
                        return -1;
                    }
                    long fault = fault(a[3], a[4], a[5], a[6]);
                    if (fault < 0) {
                        return fault;
                    }
                    long[] items = new long[a[6]];
                    for (int k = 0; k < items.length; k++) {
                        items[k] = at(sheets[a[3]], a[5] + k);
                    }
                    return book(kinds.get(a[0]), a[1], a[2], items, a[7]);
                }
                case "mills":
                    return mills(a);
                case "film": {
                    if (!in(a[0], 0, 3) || !in(a[1], 0, 2)) {
                        return -1;
                    }
                    long fault = fault(a[0], a[1], a[2], goods.size());
                    if (fault < 0) {
                        return fault;
                    }
                    for (int k = 0; k < goods.size(); k++) {
                        put(sheets[a[0]], a[2] + k, weight(goods.get(k)[2], goods.get(k)[0]));
                    }
                    return goods.size();
                }
                case "sheet":
                    if (!in(a[0], 0, 3) || !in(a[1], 0, 2) || a[2] > 24) {
                        return -1;
                    }
                    if (a[2] < 0) {
                        return -14;
                    }
                    sheets[a[0]] = a[1] == 0 ? new short[a[2]] : a[1] == 1 ? new int[a[2]] : new long[a[2]];
                    return a[2];
                case "drop": {
                    if (!in(a[0], 0, 3)) {
                        return -1;
                    }
                    Object row = sheets[a[0]];
                    sheets[a[0]] = null;
                    return row == null ? -11 : length(row);
                }
                case "item": {
                    if (!in(a[0], 0, 3) || !in(a[1], 0, 2)) {
                        return -1;
                    }
                    long fault = fault(a[0], a[1], a[2], 1);
                    if (fault == 0) {
                        put(sheets[a[0]], a[2], args[3]);
                    }
                    return fault == 0 ? 1 : fault;
                }
                default:
                    return copy(a);
            }
        }

        private static int add(List<int[]> list, int... thing) {
            list.add(thing);
            return list.size() - 1;
        }
    }
}
