/**
 * The document's sentences that name a boundary case, each with a test of its own on objects of its
 * own. What calls refuse by their numbers alone is in RefusalTest.
 */
public final class EdgeTest {
    private static String sentence = "";
    private static int sentences = 0;
    private static int wrong = 0;

    private EdgeTest() {
    }

    public static void main(String[] args) {
        newObjects();
        parishNumbers();
        pullsOfSeasons();
        roadNumbers();
        cartsAndGoods();
        ropes();
        people();
        tellings();
        weights();
        tapes();
        landParishes();
        landRoads();
        landBlanks();
        landEffects();
        counts();
        seasonsTurn();
        peopleGo();
        goodsFall();
        lastWeek();
        wayEnds();
        wayBorne();
        wayCosts();
        likeWays();
        netEdges();
        marketEdges();
        tradeEdges();
        lawEdges();
        takeEdges();
        councilEdges();
        leagueEdges();
        partEdges();
        changeEdges();
        wellEdges();
        imageEdges();
        stones();
        evenStones();
        bookRows();
        bookHoles();
        bookFalse();
        millEdges();
        filmEdges();
        sheetEdges();
        itemBits();
        copyEdges();
        System.out.println(sentences + " sentences, " + wrong + " wrong answers");
        System.exit(wrong == 0 ? 0 : 1);
    }

    private static void says(String words) {
        sentence = words;
        sentences++;
    }

    private static void due(long got, long want) {
        if (got != want) {
            wrong++;
            System.out.println(sentence + ": answered " + got + ", due is " + want);
            StackTraceElement line = new Throwable().getStackTrace()[1];
            System.out.println("    at line " + line.getLineNumber());
        }
    }

    private static void type(ParishPull x, String text) {
        for (int k = 0; k < text.length(); k++) {
            x.type(text.charAt(k));
        }
    }

    private static int read(ParishPull x, String text) {
        type(x, text);
        return x.land();
    }

    private static ParishPull landOf(String text) {
        ParishPull x = new ParishPull();
        if (read(x, text) < 0) {
            throw new IllegalStateException("not a land: " + text);
        }
        return x;
    }

    /** What a text answers as a land of a new object. */
    private static int fault(String text) {
        return read(new ParishPull(), text);
    }

    private static void items(ParishPull x, int sheet, int lane, long... values) {
        x.sheet(sheet, lane, values.length);
        for (int k = 0; k < values.length; k++) {
            x.item(sheet, lane, k, values[k]);
        }
    }

    /** An item of 0 .. 99, where parish 0 is a land of pull 1: sheet 3 is used for it. */
    private static int itemOf(ParishPull x, int sheet, int lane, int i) {
        x.sheet(3, lane, 2);
        x.copy(sheet, i, 3, 1, 1);
        return x.mills(3, lane, 0, 1);
    }

    private static final String EIGHT = "l,l,l,l,l,l,l,l";
    private static final String FIFTEEN = "01,02,03,04,05,06,07,12,13,14,15,16,17,23,24";

    // ---- 1 land, carts, goods, people

    private static void newObjects() {
        says("1: no parish, no cart");
        ParishPull x = new ParishPull();
        for (int what = 0; what <= 7; what++) {
            due(x.count(what), 0);
        }
        due(x.cart(5, 5), 0);
        due(x.league(0, 0), 0);
        due(x.league(1, 0), -1000001);
        due(x.parish(0), 0);
        says("1: two objects have nothing in common");
        ParishPull y = new ParishPull();
        due(y.count(0), 0);
        due(y.count(2), 0);
    }

    private static void parishNumbers() {
        says("2: parishes 0 .. 7, as they come; FULL: 8");
        ParishPull x = new ParishPull();
        for (int k = 0; k < 8; k++) {
            due(x.parish(3 - k % 4), k);
            due(x.of(k, 0), 3 - k % 4);
        }
        due(x.parish(0), -3);
        due(x.count(0), 8);
        says("2: they go on behind a land's");
        due(read(x, "s,s,s,s,s,s,s"), 7);
        due(x.parish(1), 7);
        due(x.parish(1), -3);
        due(x.of(7, 0), 1);
        says("2: FULL no more, where a land or an image has fewer");
        due(read(x, "s"), 1);
        due(x.parish(2), 1);
        says("==== 1: a pull, 5 at first, in each of four seasons, also where another one stood");
        ParishPull y = new ParishPull();
        y.image();
        y.parish(0);
        for (int season = 0; season < 4; season++) {
            due(y.pull(0, season, 9 - season), 5);
        }
        y.restore();
        y.parish(0);
        for (int season = 0; season < 4; season++) {
            due(y.of(0, 1 + season), 5);
        }
    }

    private static void pullsOfSeasons() {
        says("3: 1 .. 9, what it was");
        ParishPull x = landOf("l,h");
        due(x.pull(0, 0, 1), 5);
        due(x.pull(0, 0, 9), 1);
        due(x.pull(0, 0, 9), 9);
        says("3: of that parish in that season alone");
        due(x.pull(1, 3, 2), 5);
        due(x.pull(0, 3, 3), 5);
        int[] first = {9, 5, 5, 3};
        int[] other = {5, 5, 5, 2};
        for (int season = 0; season < 4; season++) {
            due(x.of(0, 1 + season), first[season]);
            due(x.of(1, 1 + season), other[season]);
        }
    }

    private static void roadNumbers() {
        says("4: roads 0 .. 14, as they come; FULL: 15");
        ParishPull x = landOf(EIGHT);
        int roads = 0;
        for (int a = 7; a > 0 && roads < 15; a--) {
            for (int b = 0; b < a && roads < 15; b++) {
                due(x.road(a, b, roads % 10), roads);
                due(x.told(roads, 0), b);
                due(x.told(roads, 1), a);
                due(x.told(roads, 2), roads % 10);
                roads++;
            }
        }
        due(x.road(0, 1, 0), -3);
        due(x.count(1), 15);
        says("4: two of them once at most, either way round");
        ParishPull y = landOf("l,l,l;01");
        due(y.road(0, 1, 5), -2);
        due(y.road(1, 0, 5), -2);
        due(y.road(2, 1, 5), 1);
        due(y.road(1, 2, 5), -2);
        due(y.road(0, 2, 5), 2);
        says("4: once more where the road is gone");
        due(read(y, "l,l,l"), 3);
        due(y.road(0, 1, 5), 0);
        says("5: toll 0 .. 9, what it was");
        due(y.toll(0, 0), 5);
        due(y.toll(0, 9), 0);
        due(y.toll(0, 9), 9);
        due(y.told(0, 2), 9);
    }

    private static void cartsAndGoods() {
        says("6: carts 0 .. 3, as they come, bear 0 .. 999, cost 0 .. 99; FULL: 4");
        ParishPull x = landOf("l,s");
        due(x.cart(0, 0), 0);
        due(x.cart(999, 99), 1);
        due(x.cart(0, 99), 2);
        due(x.cart(999, 0), 3);
        due(x.cart(0, 0), -3);
        int[] borne = {0, 999, 0, 999};
        int[] costs = {0, 99, 99, 0};
        for (int k = 0; k < 4; k++) {
            due(x.told(k, 3), borne[k]);
            due(x.told(k, 4), costs[k]);
        }
        says("7: goods 0 .. 5, as they come, mass 1 .. 99, price 1 .. 9; FULL: 6");
        for (int k = 0; k < 6; k++) {
            due(x.good(k % 2 == 0 ? 1 : 99, k % 3 == 0 ? 1 : 9, k / 3), k);
        }
        due(x.good(1, 1, 0), -3);
        for (int k = 0; k < 6; k++) {
            due(x.told(k, 5), k % 2 == 0 ? 1 : 99);
            due(x.told(k, 6), k % 3 == 0 ? 1 : 9);
            due(x.told(k, 7), k / 3);
            due(x.told(k, 8), 0);
        }
        says("7: they lie at first, also where one hung that is gone");
        x.hang(0, 9);
        due(x.told(0, 8), 9);
        due(read(x, "l"), 1);
        due(x.good(1, 1, 0), 0);
        due(x.told(0, 8), 0);
        due(x.count(7), 0);
    }

    private static void ropes() {
        says("8: NOT: it would fall at once: above the rope, not if it weighs just as much");
        ParishPull x = landOf("l5999,s,h9999");
        x.good(10, 1, 0);
        due(x.hang(0, 49), -2);
        due(x.hang(0, 50), 0);
        due(x.hang(0, 49), -2);
        due(x.told(0, 8), 50);
        says("8: by the pull of this season alone");
        due(x.hang(0, 51), 50);
        says("8: rope 1 .. 999");
        x.good(99, 1, 1);
        due(x.hang(1, 1), 0);
        due(x.hang(1, 999), 1);
        x.good(99, 1, 2);
        due(x.weighs(2, 99), 990);
        due(x.hang(2, 989), -2);
        due(x.hang(2, 990), 0);
        says("8: 0: it lies, and that is never too weak");
        due(x.hang(2, 0), 990);
        due(x.hang(2, 0), 0);
        x.pull(0, 0, 9);
        due(x.hang(0, 51), -2);
        due(x.hang(0, 0), 51);
    }

    private static void people() {
        says("9: people 0 .. 5, as they come, mass 1 .. 99; FULL: 6");
        ParishPull x = landOf("l,h");
        for (int k = 0; k < 6; k++) {
            due(x.person(k % 2 == 0 ? 1 : 99, k / 3), k);
            due(x.told(k, 9), k % 2 == 0 ? 1 : 99);
            due(x.told(k, 10), k / 3);
        }
        due(x.person(1, 0), -3);
        due(x.count(4), 6);
    }

    private static void tellings() {
        says("10: how many roads: none, and one to each other parish");
        ParishPull x = landOf(EIGHT + ";30,31,32,34,35,36,37");
        due(x.of(3, 5), 7);
        due(x.of(0, 5), 1);
        due(landOf("l").of(0, 5), 0);
        says("10: goods there, people there: no one, all six, those that hang too");
        due(x.of(0, 6), 0);
        due(x.of(0, 7), 0);
        for (int k = 0; k < 6; k++) {
            x.good(1, 1, 7);
            x.person(1, 7);
        }
        x.hang(5, 9);
        due(x.of(7, 6), 63);
        due(x.of(7, 7), 63);
        says("11: the lesser parish, the other one, however the road was told");
        ParishPull y = landOf(EIGHT);
        y.road(7, 0, 1);
        y.road(1, 6, 1);
        due(y.told(0, 0), 0);
        due(y.told(0, 1), 7);
        due(y.told(1, 0), 1);
        due(y.told(1, 1), 6);
    }

    private static void weights() {
        says("12: mass 1 .. 99, pull 1 .. 9, by kinds");
        ParishPull x = landOf("l1555,h1555,s1555,a1555,l9555,h9555,s9555,a9555");
        int[] least = {1, 2, 0, 1, 9, 10, 0, 5};
        int[] most = {99, 198, 0, 99, 891, 990, 0, 495};
        for (int k = 0; k < 8; k++) {
            due(x.weighs(k, 1), least[k]);
            due(x.weighs(k, 99), most[k]);
        }
        says("12: half, cut");
        ParishPull y = landOf("a2555");
        due(y.weighs(0, 1), 1);
        due(y.weighs(0, 99), 148);
        due(y.weighs(0, 2), 3);
        says("12: now: by the season's pull");
        ParishPull z = landOf("l1234");
        for (int season = 0; season < 4; season++) {
            due(z.weighs(0, 10), 10 + 10 * season);
            z.weeks(13);
        }
        due(z.weighs(0, 10), 10);
    }

    private static void tapes() {
        says("13: 32 .. 126, how many it has; FULL: 120");
        ParishPull x = new ParishPull();
        for (int k = 0; k < 120; k++) {
            due(x.type(k < 95 ? 32 + k : 126), k + 1);
        }
        due(x.type(32), -3);
        says("14: the tape is empty then, behind a fault");
        due(x.land(), -21);
        due(x.type('l'), 1);
        says("14: the tape is empty then, behind a land");
        due(x.land(), 1);
        due(x.type('h'), 1);
        due(x.land(), 1);
        due(x.of(0, 0), 1);
        says("14: an empty tape is none, and what was typed ahead counts no more");
        due(x.land(), -20);
        due(x.of(0, 0), 1);
        says("13: what is refused does not come to the tape");
        type(x, "l");
        x.type(31);
        x.type(127);
        due(x.type(','), 2);
        due(x.type('s'), 3);
        due(x.land(), 2);
    }

    private static void landParishes() {
        says("14: l h s a alone");
        due(fault("l,h,s,a"), 4);
        for (String text : new String[] {"L", "b", "k", "m", "0", "5", ";", ",", "t", "~"}) {
            due(fault(text), -20);
        }
        due(fault("l,b"), -22);
        says("14: 1 to 8 parishes");
        due(fault(""), -20);
        due(fault("l"), 1);
        due(fault(EIGHT), 8);
        due(fault(EIGHT + ",l"), -35);
        due(fault(EIGHT + ","), -35);
        says("14: with , between");
        due(fault("lh"), -21);
        due(fault("l,,h"), -22);
        due(fault(",l"), -20);
        due(fault("l,"), -22);
        due(fault("l,;01"), -22);
        due(fault("l.h"), -21);
        says("14: perhaps 4 digits, not fewer");
        due(fault("l1111"), 1);
        due(fault("l1"), -22);
        due(fault("l11"), -23);
        due(fault("l111"), -24);
        due(fault("l1,h"), -22);
        due(fault("l11,h"), -23);
        due(fault("l111;01"), -24);
        says("14: not more than 4");
        due(fault("l11111"), -25);
        says("14: 1 .. 9");
        due(fault("l9999"), 1);
        due(fault("l0"), -21);
        due(fault("l10"), -22);
        due(fault("l110"), -23);
        due(fault("l1110"), -24);
        due(fault("l:"), -21);
        due(fault("l/"), -21);
        due(fault("l999:"), -24);
        says("14: pulls by seasons, else 5");
        ParishPull x = landOf("l1928,h");
        int[] pulls = {1, 9, 2, 8};
        for (int season = 0; season < 4; season++) {
            due(x.of(0, 1 + season), pulls[season]);
            due(x.of(1, 1 + season), 5);
        }
    }

    private static void landRoads() {
        says("14: perhaps ; and 1 to 15 roads");
        due(fault("l,l;"), -24);
        due(fault("l,l;;"), -24);
        due(fault("l,l;01"), 2);
        due(fault("l,l;01;"), -26);
        due(fault("l,l:01"), -23);
        due(fault(EIGHT + ";" + FIFTEEN), 8);
        due(fault(EIGHT + ";" + FIFTEEN + ","), -80);
        due(fault(EIGHT + ";" + FIFTEEN + ",25"), -80);
        says("14: with , between");
        due(fault("l,l,l;0112"), -28);
        due(fault("l,l,l;01,,12"), -29);
        due(fault("l,l,l;,01"), -26);
        due(fault("l,l,l;01,"), -29);
        says("14: two digits, of parishes told");
        due(fault("l,l;x"), -24);
        due(fault("l,l;0"), -25);
        due(fault("l,l;0x"), -25);
        due(fault("l,l;0,"), -25);
        due(fault("l,l;2"), -24);
        due(fault("l,l;02"), -25);
        due(fault("l,l;/"), -24);
        due(fault(EIGHT + ";07"), 8);
        due(fault(EIGHT + ";70"), 8);
        due(fault(EIGHT + ";80"), -36);
        due(fault(EIGHT + ";08"), -37);
        due(fault("l;"), -22);
        due(fault("l;1"), -22);
        says("14: unlike: of one parish, the second digit");
        due(fault("l,l;00"), -25);
        due(fault("l,l;11"), -25);
        due(fault("l;00"), -23);
        due(fault("l,l;0 0"), -26);
        says("14: no pair twice, either way round: the second digit");
        due(fault("l,l,l;01,12,01"), -33);
        due(fault("l,l,l;01,12,10"), -33);
        due(fault("l,l,l;01,12,1 0"), -34);
        due(fault("l,l,l;01,12,20"), 3);
        says("14: perhaps t and a digit, else 0");
        ParishPull x = landOf("l,l,l;01t0,12t9,20");
        due(x.told(0, 2), 0);
        due(x.told(1, 2), 9);
        due(x.told(2, 2), 0);
        due(fault("l,l;01t"), -27);
        due(fault("l,l;01t,"), -27);
        due(fault("l,l;01tt"), -27);
        due(fault("l,l;01t:"), -27);
        due(fault("l,l;01t/"), -27);
        due(fault("l,l;01t99"), -28);
        due(fault("l,l;019"), -26);
        due(fault("l,l;t0"), -24);
        due(fault("l,l;0t1"), -25);
        due(fault("l,l;01T5"), -26);
    }

    private static void landBlanks() {
        says("14: blanks count for nothing, wherever they are");
        ParishPull x = new ParishPull();
        due(read(x, "  l  1 2 3  4 , h ; 0  1 t  7 , "), -52);
        due(read(x, "  l  1 2 3  4 , h  ;  0  1  t  7  "), 2);
        due(x.of(0, 1), 1);
        due(x.of(0, 4), 4);
        due(x.of(1, 0), 1);
        due(x.told(0, 2), 7);
        says("14: blanks behind all that there can be");
        due(fault(EIGHT + "  "), 8);
        due(fault(EIGHT + "  ,"), -37);
        due(fault(EIGHT + "  ;  " + FIFTEEN + "  "), 8);
        due(fault(EIGHT + ";" + FIFTEEN + "  ,"), -82);
        due(fault(EIGHT + ";" + FIFTEEN + "t5  "), 8);
        due(fault(EIGHT + ";" + FIFTEEN + "t5  ,"), -84);
        due(fault("l1111  "), 1);
        due(fault("l1111  1"), -27);
        says("14: the first letter behind blanks that can't stand there");
        due(fault("   x"), -23);
        due(fault("l  x"), -23);
        due(fault("l 1 1 1  0"), -29);
        due(fault("l, l;  0  x"), -30);
        says("14: the end: how many there are");
        due(fault(" "), -21);
        due(fault("l1  "), -24);
        due(fault("l,  "), -24);
        due(fault("l,l; 0 "), -27);
        due(fault("l,l; 01 t "), -30);
        due(fault(" ".repeat(120)), -140);
        due(fault(" ".repeat(119) + "l"), 1);
        due(fault(" ".repeat(119) + "x"), -139);
        due(fault("l" + " ".repeat(119)), 1);
        due(fault("l" + " ".repeat(118) + ","), -140);
    }

    private static void landEffects() {
        says("14: a fault: all stays");
        ParishPull x = landOf("l1234,h;01t3");
        x.cart(7, 8);
        x.good(9, 1, 0);
        x.hang(0, 99);
        x.person(5, 1);
        x.weeks(1);
        // each of these has read some parishes and roads ahead of its fault
        for (String text : new String[] {"s9999,s,s;01t9,02,x", "s9999,", "s,s;00", "s,s;01,10"}) {
            due(read(x, text) < -20 ? 1 : 0, 1);
            int[] counts = {2, 1, 1, 1, 1, 1, 0, 1};
            for (int what = 0; what <= 7; what++) {
                due(x.count(what), counts[what]);
            }
            due(x.of(0, 0), 0);
            due(x.of(1, 0), 1);
            due(x.of(0, 4), 4);
            due(x.told(0, 2), 3);
        }
        says("14: in place of all; goods, people are gone, carts, week stay");
        due(read(x, "s,a,s"), 3);
        int[] counts = {3, 0, 1, 0, 0, 1, 0, 0};
        for (int what = 0; what <= 7; what++) {
            due(x.count(what), counts[what]);
        }
        due(x.told(0, 3), 7);
        due(x.of(0, 6), 0);
        due(x.of(1, 7), 0);
        due(x.of(0, 4), 5);
        due(x.hang(0, 0), -1);
        due(x.toll(0, 0), -1);
    }

    private static void counts() {
        says("15: as many as there can be");
        ParishPull x = landOf(EIGHT + ";" + FIFTEEN);
        for (int k = 0; k < 6; k++) {
            x.cart(1, 1);
            x.good(1, 1, 0);
            x.person(1, 0);
            x.hang(k, 999);
        }
        int[] due = {8, 15, 4, 6, 6, 0, 0, 6};
        for (int what = 0; what <= 7; what++) {
            due(x.count(what), due[what]);
        }
    }

    private static void seasonsTurn() {
        says("==== 1: the season is week by 13, left over by 4");
        ParishPull x = new ParishPull();
        int[] steps = {12, 1, 12, 1, 12, 1, 12, 1, 12, 1};
        int[] seasons = {0, 1, 1, 2, 2, 3, 3, 0, 0, 1};
        int week = 0;
        for (int k = 0; k < steps.length; k++) {
            due(x.weeks(steps[k]), 0);
            week += steps[k];
            due(x.count(5), week);
            due(x.count(6), seasons[k]);
        }
        says("16: the week is one more, and then they go: by the new season's pulls");
        ParishPull y = landOf("l1999,l2111;01");
        y.person(1, 0);
        due(y.weeks(12), 0);
        due(y.weeks(1), 100);
        says("16: and then goods fall, by the new season's pulls");
        ParishPull z = landOf("l1911");
        z.good(1, 1, 0);
        z.hang(0, 8);
        due(z.weeks(12), 0);
        due(z.weeks(1), 1);
        says("16: n weeks one behind the other: 52 are a year, and seasons within them count");
        ParishPull u = landOf("l1919,l9191;01");
        u.person(1, 0);
        u.good(1, 1, 0);
        u.hang(0, 8);
        due(u.weeks(52), 401);
        due(u.told(0, 10), 0);
        due(u.count(6), 0);
    }

    private static void peopleGo() {
        says("16: if it is less than where one is: not if it is alike");
        ParishPull x = landOf("l,l,l9555;01,02");
        x.person(9, 0);
        due(x.weeks(52), 0);
        due(x.told(0, 10), 0);
        says("16: less by one, cut like it");
        ParishPull y = landOf("a3555,a2555;01");
        y.person(1, 0);
        y.person(2, 0);
        due(y.weeks(1), 200);
        ParishPull z = landOf("a2555,a1555;01");
        z.person(1, 0);
        z.person(2, 0);
        due(z.weeks(1), 100);
        due(z.of(1, 7), 2);
        says("16: of like ones the first parish, whichever road came first");
        ParishPull u = landOf("l9999,l1111,l1111,l1111;30,20,10");
        u.person(1, 0);
        due(u.weeks(1), 100);
        due(u.told(0, 10), 1);
        says("16: joined by a road alone, one road in a week");
        ParishPull v = landOf("l5555,l4444,l3333,l2222,s;01,12,23");
        v.person(1, 0);
        due(v.weeks(1), 100);
        due(v.told(0, 10), 1);
        due(v.weeks(1), 100);
        due(v.told(0, 10), 2);
        due(v.weeks(52), 100);
        due(v.told(0, 10), 3);
        says("16: 100 times how often: all six, seven roads each");
        ParishPull w = landOf("h9999,l8888,l7777,l6666,l5555,l4444,l3333,s;01,12,23,34,45,56,67");
        for (int k = 0; k < 6; k++) {
            w.person(99, 0);
        }
        due(w.weeks(52), 4200);
        due(w.of(7, 7), 63);
        says("16: by all fifteen roads, the last one too");
        ParishPull r = landOf("l,l,h,l1111,s,l,l,h;" + FIFTEEN);
        r.person(1, 2);
        r.person(1, 7);
        due(r.weeks(1), 200);
        due(r.told(0, 10), 4);
        due(r.told(1, 10), 0);
        says("16: by no road of a land that is gone");
        due(read(r, "s,l,l;12,01"), 3);
        due(read(r, "s,l,l;12"), 3);
        r.person(1, 1);
        due(r.weeks(1), 0);
        due(r.road(1, 0, 0), 1);
        due(r.weeks(1), 100);
        says("16: no one goes where there is no road, or nobody is");
        ParishPull n = landOf("l9999,s");
        due(n.weeks(1), 0);
        n.person(1, 0);
        due(n.weeks(1), 0);
    }

    private static void goodsFall() {
        says("16: they fall if their weight is above the rope: not if it is alike");
        ParishPull x = landOf("l5555,l5555");
        for (int k = 0; k < 6; k++) {
            x.good(10, 1, 0);
            x.hang(k, 50 + k);
        }
        due(x.weeks(1), 0);
        x.pull(0, 0, 6);
        due(x.count(7), 6);
        due(x.weeks(1), 6);
        due(x.count(7), 0);
        says("16: they lie then, and fall no more");
        for (int k = 0; k < 6; k++) {
            due(x.told(k, 8), 0);
        }
        due(x.of(0, 6), 63);
        due(x.weeks(52), 0);
        says("16: just what the rope bears, and 1 more");
        ParishPull y = landOf("a");
        y.good(3, 1, 0);
        y.good(3, 1, 0);
        y.hang(0, 9);
        y.hang(1, 10);
        y.pull(0, 0, 6);
        due(y.weighs(0, 3), 10);
        due(y.weeks(1), 1);
        due(y.told(0, 8), 0);
        due(y.told(1, 8), 10);
    }

    private static void lastWeek() {
        says("16: FULL: week would be above 9999; 9999 at most");
        ParishPull x = landOf("l");
        for (int k = 0; k < 191; k++) {
            x.weeks(52);
        }
        due(x.count(5), 9932);
        due(x.weeks(52), 0);
        due(x.weeks(52), -3);
        due(x.weeks(16), -3);
        due(x.weeks(15), 0);
        due(x.count(5), 9999);
        due(x.count(6), 1);
        due(x.weeks(1), -3);
        due(x.count(5), 9999);
        says("12: the last week's season is like any other");
        x.pull(0, 1, 7);
        due(x.weighs(0, 10), 70);
    }

    // ---- 2 ways, trades

    private static void wayEnds() {
        says("17: the i-th parish of it (0 .. 7): a way over all eight");
        ParishPull x = landOf(EIGHT + ";01,12,23,34,45,56,67");
        x.cart(999, 99);
        due(x.way(0, 1, 0, 7, -1), 693);
        due(x.way(0, 1, 7, 0, -1), 693);
        for (int i = 0; i <= 7; i++) {
            due(x.way(0, 1, 0, 7, i), i);
            due(x.way(0, 1, 7, 0, i), 7 - i);
        }
        says("17: NONE: no i-th");
        due(x.way(0, 1, 0, 6, 6), 6);
        due(x.way(0, 1, 0, 6, 7), -4);
        says("17: from a parish to itself: it costs nothing, and has one parish");
        due(x.way(0, 1, 7, 7, -1), 0);
        due(x.way(0, 1, 7, 7, 0), 7);
        due(x.way(0, 1, 7, 7, 1), -4);
        says("17: NONE: there is none");
        ParishPull y = landOf("l,l,l,l;01,23");
        y.cart(999, 0);
        for (int i = -1; i <= 7; i++) {
            due(y.way(0, 1, 0, 2, i), -4);
        }
        due(y.way(0, 1, 2, 3, -1), 0);
    }

    private static void wayBorne() {
        says("==== 2: no more than the cart bears: just as much is borne, in its ends too");
        ParishPull x = landOf("l9555,l5555,l5555;01,12");
        x.cart(90, 1);
        x.cart(89, 1);
        due(x.way(0, 10, 0, 2, -1), 2);
        due(x.way(1, 10, 0, 2, -1), -4);
        due(x.way(0, 10, 2, 0, -1), 2);
        due(x.way(1, 10, 2, 0, -1), -4);
        due(x.way(0, 10, 0, 0, -1), 0);
        due(x.way(1, 10, 0, 0, -1), -4);
        due(x.way(1, 10, 1, 2, -1), 1);
        says("==== 2: whatever an earlier call carried");
        ParishPull u = landOf("l9555,l");
        u.cart(50, 0);
        due(u.way(0, 1, 1, 0, -1), -4);
        due(u.road(0, 1, 0), 0);
        due(u.way(0, 10, 1, 0, -1), -4);
        due(u.way(0, 5, 1, 0, -1), 0);
        due(u.way(0, 10, 1, 0, -1), -4);
        ParishPull v = landOf("l9555,l");
        v.cart(50, 0);
        v.good(1, 1, 1);
        v.good(10, 1, 1);
        due(v.net(0, 0, 0), -1000004);
        due(v.road(0, 1, 0), 0);
        due(v.net(1, 0, 0), -1000004);
        due(v.net(0, 0, 0), 9);
        due(v.market(1, 0), 1);
        says("==== 2: in each of which, also between the ends: else another way");
        ParishPull y = landOf("l,l9555,l,l;01,12,03t9,32t9");
        y.cart(90, 0);
        y.cart(89, 0);
        due(y.way(0, 10, 0, 2, -1), 0);
        due(y.way(0, 10, 0, 2, 1), 1);
        due(y.way(1, 10, 0, 2, -1), 90);
        due(y.way(1, 10, 0, 2, 1), 3);
        says("6: a cart that bears 0 goes over seas alone");
        ParishPull z = landOf("s,s,l1111;01t9,12t9");
        z.cart(0, 5);
        due(z.way(0, 99, 0, 1, -1), 5);
        due(z.way(0, 1, 1, 2, -1), -4);
        due(z.way(0, 1, 2, 2, -1), -4);
    }

    private static void wayCosts() {
        says("==== 2: toll times the weight in the parish that is left, by 10, cut for each road");
        ParishPull x = landOf("l,l,l,h9555;01t1,12t1,23t9");
        x.cart(999, 0);
        x.cart(999, 99);
        due(x.way(0, 1, 0, 1, -1), 0);
        due(x.way(0, 1, 0, 2, -1), 0);
        due(x.way(0, 2, 0, 1, -1), 1);
        due(x.way(0, 3, 0, 2, -1), 2);
        says("==== 2: the dearest road");
        due(x.way(1, 99, 3, 2, -1), 99 + 9 * 990 / 10);
        says("==== 2: the weight where it is left, not where it comes");
        due(x.way(1, 99, 2, 3, -1), 99 + 9 * 495 / 10);
        says("==== 2: toll 0, weight 0, cost 0 cost nothing");
        ParishPull y = landOf("s,l9999;01t9");
        y.cart(999, 0);
        due(y.way(0, 99, 0, 1, -1), 0);
        due(y.way(0, 99, 1, 0, -1), 801);
        y.toll(0, 0);
        due(y.way(0, 99, 1, 0, -1), 0);
    }

    private static void likeWays() {
        says("==== 2: of like ones the first as a row of parishes, be it longer");
        ParishPull x = landOf("l,l,l,l;03,02,23,01,12");
        x.cart(999, 0);
        int[] due = {0, 1, 2, 3};
        for (int i = 0; i < 4; i++) {
            due(x.way(0, 9, 0, 3, i), due[i]);
        }
        says("==== 2: the one that costs least, be it later");
        x.toll(3, 1);
        x.toll(2, 1);
        due(x.way(0, 9, 0, 3, 1), 3);
        says("==== 2: less by 1 is less, alike is like");
        ParishPull y = landOf("l,l,l;02t2,01t1,12t1");
        y.cart(999, 0);
        due(y.way(0, 2, 0, 2, -1), 2);
        due(y.way(0, 2, 0, 2, 1), 1);
        due(y.way(0, 3, 0, 2, -1), 2);
        due(y.way(0, 3, 0, 2, 1), 1);
        y.toll(0, 1);
        due(y.way(0, 2, 0, 2, -1), 1);
        due(y.way(0, 2, 0, 2, 1), 2);
        says("==== 2: none twice, where a ring costs nothing");
        ParishPull z = landOf("l,l,l,l;21,10,02,23");
        z.cart(999, 0);
        due(z.way(0, 9, 2, 3, 1), 3);
        due(z.way(0, 9, 2, 3, 2), -4);
        due(z.way(0, 9, 1, 3, 1), 0);
        due(z.way(0, 9, 1, 3, 2), 2);
        due(z.way(0, 9, 1, 3, 3), 3);
    }

    private static void netEdges() {
        says("18: the most, the least, 0");
        ParishPull x = landOf("h9999,s,h9999,s;01t9,12t9,23t9");
        x.cart(999, 99);
        x.good(99, 9, 0);
        due(x.net(0, 0, 0), 8910);
        due(x.net(0, 1, 0), -99 - 891);
        due(x.net(0, 2, 0), 8910 - 99 - 891 - 99);
        due(x.net(0, 3, 0), -99 - 891 - 99 - 99 - 891);
        x.good(1, 1, 1);
        due(x.net(1, 1, 0), 0);
        says("18: NONE: no way, be it to where it is");
        ParishPull y = landOf("l,l");
        y.cart(50, 0);
        y.cart(49, 0);
        y.good(10, 1, 0);
        due(y.net(0, 0, 0), 50);
        due(y.net(0, 1, 0), -1000004);
        due(y.net(0, 0, 1), -1000004);
    }

    private static void marketEdges() {
        says("19: none, if the cart does not bear it where it is: just as much is borne");
        ParishPull x = landOf("l,l1555;01");
        x.cart(50, 0);
        x.cart(49, 0);
        x.good(10, 1, 0);
        due(x.market(0, 0), 0);
        due(x.market(0, 1), -4);
        says("19: where it is, if it can go nowhere");
        ParishPull y = landOf("l,l,l9555;12");
        y.cart(50, 0);
        y.good(10, 1, 0);
        y.good(10, 1, 1);
        due(y.market(0, 0), 0);
        due(y.market(1, 0), 1);
        says("19: net is most: by 1 more; of like ones the first");
        ParishPull z = landOf("l5555,l6555;01");
        z.cart(999, 9);
        z.cart(999, 10);
        z.cart(999, 11);
        z.good(10, 1, 0);
        due(z.market(0, 0), 1);
        due(z.market(0, 1), 0);
        due(z.market(0, 2), 0);
        ParishPull u = landOf("l6555,l5555;01");
        u.cart(999, 9);
        u.cart(999, 10);
        u.cart(999, 11);
        u.good(10, 1, 1);
        due(u.market(0, 0), 0);
        due(u.market(0, 1), 0);
        due(u.market(0, 2), 1);
        says("19: the most may be 0");
        ParishPull s = landOf("s,s;01");
        s.cart(0, 1);
        s.good(99, 9, 1);
        due(s.market(0, 0), 1);
    }

    private static void tradeEdges() {
        says("20: gain above 0, 0, below 0");
        ParishPull x = landOf("l,l6555;01");
        x.cart(999, 9);
        x.cart(999, 10);
        x.cart(999, 11);
        x.good(10, 1, 0);
        for (int cart = 0; cart < 3; cart++) {
            due(x.trade(0, cart, 0), 1 - cart);
            due(x.trade(0, cart, 1), 1);
        }
        says("20: the most and the last pair there can be");
        ParishPull y = landOf("l,l,l,l,l,l,h9999,s;67");
        y.cart(999, 0);
        y.good(99, 9, 0);
        due(y.trade(0, 0, 0), 8910);
        due(y.trade(0, 0, 1), 76);
        says("20: sold in the first parish");
        ParishPull f = landOf("l9555,l1555;01");
        f.cart(999, 0);
        f.good(10, 1, 0);
        due(f.trade(0, 0, 0), 80);
        due(f.trade(0, 0, 1), 10);
        says("20: of like ones the first as 10 times the one and the other");
        ParishPull z = landOf("l,l6555,l,l6555;23,03,12");
        z.cart(999, 0);
        z.good(10, 1, 0);
        due(z.trade(0, 0, 0), 10);
        due(z.trade(0, 0, 1), 1);
        z.toll(2, 1);
        due(z.trade(0, 0, 1), 3);
        says("20: NONE: no way between any two");
        due(soleTrade("l", 999), -1000004);
        due(soleTrade("l,l", 999), -1000004);
        due(soleTrade("l,l;01", 49), -1000004);
        due(soleTrade("l,l;01", 50), 0);
        says("20: wherever it is: also where the cart does not bear it");
        ParishPull w = landOf("l9999,l1111,l2222;12");
        w.cart(20, 0);
        w.good(10, 1, 0);
        due(w.market(0, 0), -4);
        due(w.trade(0, 0, 0), 10);
        due(w.trade(0, 0, 1), 12);
    }

    private static int soleTrade(String land, int bears) {
        ParishPull x = landOf(land);
        x.cart(bears, 0);
        x.good(10, 1, 0);
        return x.trade(0, 0, 0);
    }

    private static void lawEdges() {
        says("21: no gain above 0: 0 is none, 1 is one");
        ParishPull x = landOf("l4555,l6555;01");
        x.cart(999, 20);
        x.cart(999, 19);
        x.good(10, 1, 0);
        due(x.scales(0, 0), 0);
        due(x.scales(0, 1), 1);
        says("21: of like ones the least set");
        ParishPull y = landOf("l6555,l4555;01");
        y.cart(999, 19);
        y.good(10, 1, 0);
        due(y.scales(0, 0), 1);
        says("21: the fewest, be it a greater set");
        ParishPull z = landOf("l,l,l,l9555;03,13,23");
        z.cart(999, 0);
        z.good(10, 1, 0);
        due(z.scales(0, 0), 8);
        says("21: in all parishes, where fewer leave a gain");
        ParishPull u = landOf("l1555,l9555,l1555,l9555,l1555,l9555,l1555,l9555;01,12,23,34,45,56,67");
        u.cart(999, 0);
        u.good(10, 1, 0);
        due(u.scales(0, 0), 255);
        says("21: none in eight parishes, and one in the last of them");
        ParishPull e = landOf(EIGHT + ";01,12,23,34,45,56,67");
        e.cart(999, 0);
        e.good(10, 1, 0);
        due(e.scales(0, 0), 0);
        e.pull(7, 0, 6);
        due(e.scales(0, 0), 128);
        says("21: none, where nothing is brought to another one");
        ParishPull v = landOf("l1555,l9555");
        v.cart(999, 0);
        v.good(10, 1, 0);
        due(v.scales(0, 0), 0);
        says("21: 5 times its mass on a sea too");
        ParishPull w = landOf("s,l;01");
        w.cart(999, 0);
        w.good(10, 1, 0);
        due(w.scales(0, 0), 1);
        says("21: bought where scales are, in whichever parish: for 5 times its mass");
        for (int sea = 0; sea < 8; sea++) {
            ParishPull s = new ParishPull();
            for (int k = 0; k < 8; k++) {
                s.parish(k == sea ? 2 : 0);
            }
            for (int k = 0; k < 7; k++) {
                s.road(k, k + 1, 0);
            }
            s.cart(999, 0);
            s.good(10, 1, 0);
            due(s.scales(0, 0), 1 << sea);
        }
        says("21: carried as it is: what the cart bears counts without scales");
        ParishPull b = landOf("l9555,l1555;01");
        b.cart(89, 0);
        b.cart(90, 0);
        b.good(10, 1, 1);
        due(b.scales(0, 0), 0);
        due(b.scales(0, 1), 3);
    }

    private static void takeEdges() {
        says("22: none, all six; goods without a market count nowhere");
        ParishPull x = landOf("l,l9555,s;01");
        x.cart(999, 0);
        x.cart(89, 0);
        x.cart(49, 0);
        due(x.take(1, 0), 0);
        for (int k = 0; k < 6; k++) {
            x.good(10, 1, k % 2);
        }
        due(x.take(1, 0), 6);
        due(x.take(0, 0), 0);
        due(x.take(2, 0), 0);
        due(x.take(0, 1), 3);
        due(x.take(1, 1), 0);
        due(x.take(0, 2), 0);
    }

    private static void councilEdges() {
        says("23: all pairs rest, where no pull counts: 1 .. 9 each, the first is 11");
        ParishPull x = landOf("s,s,l;01,02");
        x.cart(999, 0);
        x.good(10, 1, 0);
        due(x.councils(0, 1, 0, 0), 81);
        due(x.councils(0, 1, 0, 1), 11);
        says("23: 9 alone rests for the one who takes a like market first");
        ParishPull y = landOf("l,l;01");
        y.cart(999, 0);
        y.good(10, 1, 1);
        due(y.councils(0, 1, 0, 0), 9);
        due(y.councils(0, 1, 0, 1), 91);
        due(y.councils(1, 0, 0, 0), 9);
        due(y.councils(1, 0, 0, 1), 19);
        says("23: a rest at the lowest pull, as the cart bears no more");
        ParishPull z = landOf("l,l;01");
        z.cart(10, 0);
        z.good(10, 1, 0);
        // where it lies it must be 1; the other one takes it by nothing, as of like ones the first has it
        due(z.councils(0, 1, 0, 0), 9);
        due(z.councils(0, 1, 0, 1), 11);
        says("23: one alone, the last pair there is");
        ParishPull o = landOf("l,l,l9555,l9555;02,13");
        o.cart(999, 0);
        o.good(10, 1, 2);
        o.good(10, 1, 3);
        due(o.councils(0, 1, 0, 0), 1);
        due(o.councils(0, 1, 0, 1), 99);
        says("23: NONE: there are none");
        ParishPull n = landOf("l,l;01");
        n.cart(52, 0);
        n.good(7, 1, 1);
        n.good(5, 7, 0);
        due(n.councils(0, 1, 0, 0), 0);
        due(n.councils(0, 1, 0, 1), -4);
        says("23: by all six goods");
        ParishPull g = landOf("l,l,l9555,l9555;02,13");
        g.cart(999, 0);
        for (int k = 0; k < 6; k++) {
            g.good(10 + k, 1, 2 + k % 2);
        }
        due(g.councils(0, 1, 0, 0), 1);
        says("23: whatever an earlier call saw: goods that are gone, a load that was heavier");
        due(read(g, "l,l,l9555;01,02,12"), 3);
        due(g.councils(0, 1, 0, 0), 81);
        due(g.councils(0, 1, 0, 1), 11);
        g.good(1, 1, 0);
        due(g.way(0, 99, 0, 2, -1), 0);
        due(g.councils(0, 1, 0, 0), 9);
        due(g.councils(0, 1, 0, 1), 91);
        says("23: their pull of this season alone");
        ParishPull s = landOf("l5155,l5955;01");
        s.cart(999, 0);
        s.good(10, 1, 0);
        s.weeks(13);
        due(s.councils(0, 1, 0, 0), 9);
        due(s.of(0, 2), 1);
        due(s.of(1, 2), 9);
        due(s.of(0, 1), 5);
    }

    private static void leagueEdges() {
        says("24: a set of none, of one, of two not joined: no worth");
        ParishPull x = landOf("l1555,l9555,l;01t9,12t9");
        x.cart(999, 5);
        x.good(10, 2, 0);
        due(x.league(0, 0), 0);
        for (int parish = 0; parish < 3; parish++) {
            due(x.league(1 << parish, 0), 0);
        }
        due(x.league(5, 0), 0);
        says("24: roads between two of it: the cost stays, the toll is none");
        due(x.net(0, 1, 0), 180 - 5 - 9);
        due(x.league(3, 0), 9);
        due(x.league(7, 0), 9);
        says("24: a set of all eight");
        ParishPull y = landOf("l1111,l,l,l,l,l,l,h9999;01t9,12t9,23t9,34t9,45t9,56t9,67t9");
        y.cart(999, 0);
        y.good(10, 1, 0);
        due(y.net(0, 7, 0), 100 - 9 - 6 * 45);
        due(y.market(0, 0), 1);
        due(y.league(255, 0), 100 - (50 - 9));
        due(y.league(127, 0), 100 - 45 - (50 - 9));
        says("24: no road has lost its toll behind it");
        due(y.upper(0, 255, 0) > 0 ? 1 : 0, 1);
        due(y.way(0, 10, 0, 1, -1), 9);
        due(y.net(0, 1, 0), 41);
        due(y.market(0, 0), 1);
        due(y.take(1, 0), 1);
        due(y.trade(0, 0, 0), 50 - 9 - 10);
        says("24: goods that have no market count for nothing");
        ParishPull z = landOf("l1111,l;01t9");
        z.cart(50, 0);
        z.good(99, 9, 0);
        z.good(11, 9, 1);
        due(z.league(3, 0), 0);
        z.good(10, 1, 0);
        due(z.league(3, 0), 9);
        says("24: without goods");
        ParishPull u = landOf("l,l;01t9");
        u.cart(999, 0);
        due(u.league(3, 0), 0);
    }

    private static void partEdges() {
        says("25, 26: 0 is 0 of 1");
        ParishPull x = landOf("l1111,l9999,l,l;01t9");
        x.cart(999, 0);
        due(x.upper(0, 3, 0), 0);
        due(x.lower(0, 3, 0), 1);
        x.good(10, 2, 0);
        due(x.upper(0, 1, 0), 0);
        due(x.lower(0, 1, 0), 1);
        due(x.upper(2, 15, 0), 0);
        due(x.lower(2, 15, 0), 1);
        says("25, 26: in lowest terms");
        due(x.upper(0, 3, 0), 9);
        due(x.lower(0, 3, 0), 2);
        due(x.upper(1, 15, 0), 9);
        due(x.lower(1, 15, 0), 2);
        x.toll(0, 8);
        due(x.upper(0, 3, 0), 4);
        due(x.lower(0, 3, 0), 1);
        due(x.upper(1, 15, 0), 4);
        due(x.lower(1, 15, 0), 1);
        says("25, 26: by all orders of eight");
        ParishPull y = landOf("l1111,l1111,l1111,l1111,l1111,l1111,l1111,l9999;01t1,12t1,23t1,34t1,45t1,56t1,67t1");
        y.cart(999, 0);
        y.good(10, 9, 0);
        for (int parish = 0; parish < 8; parish++) {
            boolean end = parish == 0 || parish == 7;
            due(y.upper(parish, 255, 0), 1);
            due(y.lower(parish, 255, 0), end ? 2 : 1);
        }
        says("26: its lower number, whether or not the upper one was asked for ahead");
        ParishPull u = landOf("l1111,l9999,l;01t9,12t9");
        u.cart(999, 0);
        u.good(10, 2, 0);
        due(u.lower(0, 3, 0), 2);
        due(u.lower(2, 7, 0), 1);
        due(u.lower(1, 7, 0), 2);
        due(u.upper(1, 7, 0), 9);
        says("25, 26: worth that only all eight have is an eighth for each");
        ParishPull z = landOf("l9111,l1111,l1111,l1111,l1111,l1111,l1111,h9555;01t9,12t9,23t9,34t9,45t9,56t9,67t9");
        z.cart(999, 1);
        z.good(10, 1, 0);
        due(z.league(255, 0), 3);
        for (int parish = 0; parish < 8; parish++) {
            due(z.league(255 & ~(1 << parish), 0), 0);
            due(z.upper(parish, 255, 0), 3);
            due(z.lower(parish, 255, 0), 8);
        }
    }

    private static void changeEdges() {
        says("27: would fall: above the rope, not if it weighs just as much");
        ParishPull x = landOf("l,a,s,h");
        for (int parish = 0; parish < 4; parish++) {
            x.good(10, 1, parish);
        }
        x.good(10, 1, 0);
        x.good(10, 1, 0);
        x.hang(0, 60);
        x.hang(1, 35);
        x.hang(2, 1);
        x.hang(3, 60);
        x.hang(4, 69);
        due(x.change(0, 6, 0), 0);
        due(x.change(0, 7, 0), 17);
        due(x.change(1, 6, 0), 0);
        due(x.change(1, 7, 0), 2);
        due(x.change(3, 5, 0), 0);
        due(x.change(3, 6, 0), 8);
        due(x.change(0, 9, 0), 17);
        says("27: what lies does not fall, nor what hangs on a sea");
        due(x.change(2, 9, 0), 0);
        x.hang(0, 0);
        due(x.change(0, 9, 0), 16);
        says("27: lighter: less than now, not if it is alike");
        ParishPull y = landOf("l,a2555,s9555");
        for (int parish = 0; parish < 3; parish++) {
            y.person(1, parish);
            y.person(2, parish);
        }
        due(y.change(0, 5, 1), 0);
        due(y.change(0, 4, 1), 3);
        due(y.change(0, 6, 1), 0);
        due(y.change(0, 1, 1), 3);
        due(y.change(1, 1, 1), 8);
        due(y.change(1, 2, 1), 0);
        due(y.change(2, 1, 1), 0);
        says("27: in this season: against its pull now");
        ParishPull z = landOf("l3755");
        z.person(1, 0);
        due(z.change(0, 5, 1), 0);
        z.weeks(13);
        due(z.change(0, 5, 1), 1);
        says("27: nothing is changed by it");
        due(z.of(0, 2), 7);
        due(x.count(7), 4);
        due(x.told(1, 8), 35);
        says("27: no goods, nobody there: the empty set");
        ParishPull e = landOf("l,l");
        due(e.change(0, 9, 0), 0);
        due(e.change(0, 1, 1), 0);
    }

    private static void wellEdges() {
        says("28: deep 1 .. 999, what mass 1 weighs");
        ParishPull x = landOf("l1555,h9555,a1555,a9555,a2555,l9555");
        int[] shallow = {1, 10, 1, 5, 1, 9};
        for (int parish = 0; parish < 6; parish++) {
            due(x.well(parish, 1), shallow[parish]);
            due(x.well(parish, 999), 999 * shallow[parish]);
        }
        says("28: of a sea nothing can be drawn");
        ParishPull y = landOf("s1111,s9999");
        due(y.well(0, 1), -4);
        due(y.well(1, 999), -4);
    }

    private static void imageEdges() {
        says("30: NONE: there is none; then as often as it is asked for");
        ParishPull x = new ParishPull();
        due(x.restore(), -4);
        due(x.image(), 1);
        x.parish(0);
        x.cart(1, 1);
        x.weeks(52);
        for (int k = 0; k < 3; k++) {
            due(x.restore(), 1);
            due(x.count(0), 0);
            due(x.count(2), 0);
            due(x.count(5), 0);
            x.parish(0);
        }
        says("29: a new image is in place of the old one");
        x.weeks(7);
        due(x.image(), 1);
        x.weeks(7);
        due(x.restore(), 1);
        due(x.count(5), 7);
        due(x.count(0), 1);
        says("29: an image keeps nothing of what comes later");
        ParishPull y = landOf("l1234,l;01t5");
        y.cart(3, 4);
        y.good(5, 6, 1);
        y.hang(0, 99);
        y.person(8, 1);
        y.image();
        y.pull(0, 0, 9);
        y.toll(0, 9);
        y.hang(0, 0);
        y.weeks(20);
        due(read(y, "s"), 1);
        y.good(50, 1, 0);
        y.person(50, 0);
        due(y.restore(), 1);
        int[] counts = {2, 1, 1, 1, 1, 0, 0, 1};
        for (int what = 0; what <= 7; what++) {
            due(y.count(what), counts[what]);
        }
        int[] told = {0, 1, 5, 3, 4, 5, 6, 1, 99, 8, 1};
        for (int what = 0; what <= 10; what++) {
            due(y.told(0, what), told[what]);
        }
        due(y.of(0, 1), 1);
        due(y.of(0, 0), 0);
        says("29: all but sheets, the tape");
        ParishPull z = landOf("l1111");
        items(z, 0, 1, 7, 8);
        type(z, "h,");
        z.image();
        z.item(0, 1, 0, 9);
        z.sheet(1, 2, 5);
        z.type('s');
        due(z.restore(), 1);
        due(itemOf(z, 0, 1, 0), 9);
        due(z.drop(1), 5);
        due(z.type(' '), 4);
        due(z.land(), 2);
        due(z.of(1, 0), 2);
    }

    // ---- 3 sheets

    private static void stones() {
        says("31: 0 stones: turning 0");
        ParishPull x = landOf("l,h9555,s");
        x.sheet(0, 0, 0);
        due(x.beam(0, 1, 0, 0, 0, 0, 0), 0);
        says("31: 8 stones, mass 99, place 6, the heaviest");
        items(x, 1, 1, 99, 6, 99, 6, 99, 6, 99, 6, 99, 6, 99, 6, 99, 6, 99, 6);
        due(x.beam(0, 1, 1, 1, 0, 8, 0), 47520);
        for (int k = 0; k < 8; k++) {
            x.item(1, 1, 2 * k + 1, -6);
        }
        due(x.beam(1, 0, 1, 1, 0, 8, 0), -47520);
        due(x.beam(1, 0, 1, 1, 2, 7, 0), -41580);
        says("31: mass 1, places 1, -1, 6, -6");
        items(x, 2, 2, 1, 1, 1, -1, 1, 6, 1, -6);
        due(x.beam(0, 1, 2, 2, 0, 1, 0), 10);
        due(x.beam(0, 1, 2, 2, 2, 1, 0), -5);
        due(x.beam(0, 1, 2, 2, 4, 1, 0), 60);
        due(x.beam(0, 1, 2, 2, 6, 1, 0), -30);
        due(x.beam(0, 1, 2, 2, 0, 4, 0), 35);
        says("31: NOT: a stone is not as told: mass 0, 100, place 0, 7, -7, be it the last one");
        long[][] bad = {{0, 1}, {100, 1}, {-1, 1}, {1, 0}, {1, 7}, {1, -7}, {Long.MIN_VALUE, 1}, {1, Long.MAX_VALUE},
            {1, 1L << 32 | 1}, {1L << 32 | 1, 1}, {1, Long.MIN_VALUE}};
        for (long[] stone : bad) {
            items(x, 2, 2, 1, 1, stone[0], stone[1]);
            due(x.beam(0, 1, 2, 2, 0, 1, 0), 10);
            due(x.beam(0, 1, 2, 2, 0, 2, 0), -1000002);
            due(x.beam(0, 1, 2, 2, 0, 2, 1), -1000002);
            due(x.beam(0, 1, 2, 2, 2, 1, 0), -1000002);
        }
        says("31: on a sea nothing turns");
        items(x, 2, 2, 99, 6, 1, -1);
        due(x.beam(0, 2, 2, 2, 0, 2, 0), -5);
        due(x.beam(2, 2, 2, 2, 0, 2, 0), 0);
    }

    private static void evenStones() {
        ParishPull x = landOf("l1555,s,l2555,l9555");
        says("31: even already: none is needed");
        items(x, 0, 1, 5, 6, 5, -6);
        due(x.beam(0, 0, 0, 1, 0, 2, 1), 0);
        due(x.beam(0, 0, 0, 1, 0, 0, 1), 0);
        says("31: one stone at 1, at 6; two behind it");
        int[] masses = {1, 6, 7, 12, 13};
        int[] needed = {1, 1, 2, 2, 3};
        for (int k = 0; k < masses.length; k++) {
            items(x, 0, 1, masses[k], 1, masses[k], -1);
            due(x.beam(0, 0, 0, 1, 0, 1, 1), needed[k]);
            due(x.beam(0, 0, 0, 1, 2, 1, 1), needed[k]);
        }
        says("31: none, if more than 30 are needed: 30 are not");
        items(x, 0, 1, 90, 2, 1, 1);
        due(x.beam(0, 0, 0, 1, 0, 1, 1), 30);
        due(x.beam(0, 0, 0, 1, 0, 2, 1), -1000004);
        due(x.beam(0, 0, 0, 1, 0, 2, 0), 181);
        items(x, 0, 1, 90, -2, 1, -1);
        due(x.beam(0, 0, 0, 1, 0, 1, 1), 30);
        due(x.beam(0, 0, 0, 1, 0, 2, 1), -1000004);
        says("31: it can't be even: where stones would be needed nothing weighs");
        items(x, 0, 1, 1, 1, 1, -1);
        due(x.beam(1, 0, 0, 1, 0, 1, 1), -1000004);
        due(x.beam(0, 1, 0, 1, 2, 1, 1), -1000004);
        due(x.beam(1, 0, 0, 1, 2, 1, 1), 0);
        due(x.beam(1, 1, 0, 1, 0, 2, 1), 0);
        says("31: each to the left or to the right: both, where one side can't");
        items(x, 0, 1, 1, 1);
        due(x.beam(2, 3, 0, 1, 0, 1, 0), 9);
        due(x.beam(2, 3, 0, 1, 0, 1, 1), 3);
        items(x, 0, 1, 1, -1);
        due(x.beam(3, 2, 0, 1, 0, 1, 1), 3);
        says("31: 30 to both sides together");
        ParishPull y = landOf("l8555,h8555");
        // to the left by eights: 9 * 8 = 72 evens one to the right, and mass 99 at 6 needs too many
        items(y, 0, 1, 1, 1, 99, 6, 99, 6);
        due(y.beam(0, 1, 0, 1, 0, 1, 0), 9);
        due(y.beam(0, 1, 0, 1, 0, 1, 1), 4);
        due(y.beam(0, 1, 0, 1, 2, 2, 1), -1000004);
    }

    private static void bookRows() {
        ParishPull x = landOf("l,h,s,a");
        says("32: n 1 and 24, weeks 0 and 9975");
        x.sheet(0, 1, 24);
        for (int k = 0; k < 24; k++) {
            x.item(0, 1, k, 7);
        }
        due(x.book(0, 1, 0, 0, 1, 0, 1, 0), 729);
        due(x.book(0, 1, 0, 0, 1, 0, 24, 0), 81);
        due(x.book(0, 1, 0, 0, 1, 0, 24, 1), 3);
        // week 9975 is of season 3, 9984 of season 0, 9997 of season 1
        due(x.book(0, 1, 9975, 0, 1, 0, 24, 0), 9);
        due(x.book(0, 1, 9975, 0, 1, 0, 24, 1), 11);
        due(x.book(0, 1, 9975, 0, 1, 0, 22, 1), 9);
        due(x.book(0, 1, 9975, 0, 1, 0, 1, 1), 8);
        says("32: a season's first and last week");
        due(x.book(0, 1, 0, 0, 1, 0, 13, 1), 1);
        due(x.book(0, 1, 0, 0, 1, 0, 14, 1), 3);
        due(x.book(0, 1, 12, 0, 1, 0, 1, 1), 1);
        due(x.book(0, 1, 13, 0, 1, 0, 1, 1), 2);
        due(x.book(0, 1, 26, 0, 1, 0, 1, 1), 4);
        due(x.book(0, 1, 39, 0, 1, 0, 1, 1), 8);
        due(x.book(0, 1, 51, 0, 1, 0, 1, 1), 8);
        due(x.book(0, 1, 52, 0, 1, 0, 1, 1), 1);
        due(x.book(0, 1, 51, 0, 1, 0, 2, 1), 9);
        due(x.book(0, 1, 38, 0, 1, 0, 15, 1), 13);
        says("32: pulls 1 .. 9 each: what 0 or 10 would weigh is in no row");
        items(x, 1, 2, 99, 891, 0, 990, 198, 98, 100);
        int[] rows = {729, 729, 0, 0, 729, 0, 0};
        int[] hillRows = {0, 729, 0, 729, 729, 0, 0};
        for (int k = 0; k < rows.length; k++) {
            due(x.book(0, 99, 0, 1, 2, k, 1, 0), rows[k]);
            due(x.book(1, 99, 0, 1, 2, k, 1, 0), hillRows[k]);
        }
        says("32: mass 1 in the air: two pulls weigh alike, the last one is alone");
        items(x, 1, 2, 1, 2, 4, 5, 6, 0);
        int[] airRows = {2 * 729, 2 * 729, 2 * 729, 729, 0, 0};
        int[] sure = {0, 0, 0, 1, -4, -4};
        for (int k = 0; k < airRows.length; k++) {
            due(x.book(3, 1, 0, 1, 2, k, 1, 0), airRows[k]);
            due(x.book(3, 1, 0, 1, 2, k, 1, 1), sure[k]);
        }
        says("32: an item of a long is not cut");
        items(x, 1, 2, (1L << 32) + 5, Long.MAX_VALUE);
        due(x.book(0, 1, 0, 1, 2, 0, 1, 0), 0);
        due(x.book(0, 1, 0, 1, 2, 1, 1, 2), 0);
    }

    private static void bookHoles() {
        ParishPull x = landOf("l,s");
        says("32: below 0: a hole; 0 is none");
        items(x, 0, 2, -1, Long.MIN_VALUE, 0, -5);
        due(x.book(0, 1, 0, 0, 2, 0, 1, 0), 6561);
        due(x.book(0, 1, 0, 0, 2, 1, 1, 0), 6561);
        due(x.book(0, 1, 0, 0, 2, 2, 1, 0), 0);
        due(x.book(1, 1, 0, 0, 2, 2, 1, 0), 6561);
        says("32: nothing but holes: all rows, none sure, none false");
        x.item(0, 2, 2, -7);
        due(x.book(0, 1, 11, 0, 2, 0, 4, 0), 6561);
        due(x.book(0, 1, 11, 0, 2, 0, 4, 1), 0);
        due(x.book(0, 1, 11, 0, 2, 0, 4, 2), -4);
        says("32: a hole takes a week");
        items(x, 0, 0, -1, 3, -1, 4);
        due(x.book(0, 1, 11, 0, 0, 0, 4, 1), 3);
        due(x.book(0, 1, 11, 0, 0, 1, 3, 0), 81);
        due(x.book(0, 1, 12, 0, 0, 0, 4, 2), 3);
        says("32: all four seasons sure: one row");
        ParishPull y = landOf("l");
        y.sheet(0, 1, 24);
        for (int k = 0; k < 24; k++) {
            y.item(0, 1, k, -1);
        }
        y.item(0, 1, 0, 1);
        y.item(0, 1, 1, 9);
        y.item(0, 1, 14, 5);
        due(y.book(0, 1, 12, 0, 1, 0, 24, 0), 9);
        due(y.book(0, 1, 12, 0, 1, 0, 24, 1), 7);
        due(y.book(0, 1, 51, 0, 1, 0, 24, 1), 11);
    }

    private static void bookFalse() {
        ParishPull x = landOf("l,s,a");
        says("32: false: the first item, the last one");
        items(x, 0, 1, 11, 5, 6, 5, 6);
        due(x.book(0, 1, 0, 0, 1, 0, 1, 2), 0);
        due(x.book(0, 1, 0, 0, 1, 0, 5, 2), 0);
        due(x.book(0, 1, 0, 0, 1, 1, 2, 2), 1);
        due(x.book(0, 1, 0, 0, 1, 1, 4, 2), 1);
        due(x.book(0, 1, 0, 0, 1, 1, 1, 2), -4);
        says("32: with those ahead of it: of its season");
        due(x.book(0, 1, 12, 0, 1, 1, 2, 2), -4);
        due(x.book(0, 1, 12, 0, 1, 1, 3, 2), 2);
        says("32: NONE: there is no row (1); no rows are 0 (0)");
        due(x.book(0, 1, 0, 0, 1, 0, 1, 1), -4);
        due(x.book(0, 1, 0, 0, 1, 0, 1, 0), 0);
        says("32: false on a sea: what weighs anything");
        items(x, 0, 1, 0, 0, 1);
        due(x.book(1, 99, 0, 0, 1, 0, 2, 2), -4);
        due(x.book(1, 99, 0, 0, 1, 0, 3, 2), 2);
        says("32: by rows, not by pairs: two that fit each other by one pull only");
        items(x, 0, 1, 3, 5, 3);
        due(x.book(2, 2, 0, 0, 1, 0, 1, 0), 729);
        due(x.book(2, 2, 0, 0, 1, 0, 2, 2), 1);
        due(x.book(2, 2, 12, 0, 1, 0, 2, 2), -4);
        due(x.book(2, 2, 12, 0, 1, 0, 3, 2), 2);
        says("32: the book's pulls are not the land's");
        ParishPull y = landOf("l9999");
        items(y, 0, 1, 1);
        due(y.book(0, 1, 0, 0, 1, 0, 1, 0), 729);
    }

    private static void millEdges() {
        ParishPull x = landOf("l,h9555,s,a2555");
        says("33: 1 and 8 falls, how far 0 .. 99");
        items(x, 0, 0, 1, 99, 1, 99, 1, 99, 1, 99, 1, 99, 1, 99, 1, 99, 1, 99);
        due(x.mills(0, 0, 0, 8), 7920);
        due(x.mills(0, 0, 14, 1), 990);
        items(x, 0, 0, 0, 0, 2, 99, 3, 1);
        due(x.mills(0, 0, 0, 1), 0);
        due(x.mills(0, 0, 2, 1), 0);
        due(x.mills(0, 0, 4, 1), 1);
        due(x.mills(0, 0, 0, 3), 1);
        says("33: NOT: one is not as told: no such parish, too far, be it the last one");
        long[][] bad = {{4, 0}, {-1, 0}, {0, 100}, {0, -1}, {1L << 32, 0}, {0, 1L << 32}, {Long.MIN_VALUE, 0},
            {0, Long.MAX_VALUE}};
        for (long[] fall : bad) {
            items(x, 1, 2, 0, 1, fall[0], fall[1]);
            due(x.mills(1, 2, 0, 1), 5);
            due(x.mills(1, 2, 0, 2), -2);
            due(x.mills(1, 2, 2, 1), -2);
        }
        says("33: parishes as they come: NOT no more");
        items(x, 1, 2, 4, 1);
        due(x.mills(1, 2, 0, 1), -2);
        x.parish(0);
        due(x.mills(1, 2, 0, 1), 5);
    }

    private static void filmEdges() {
        says("34: no goods: how many is 0, nothing comes");
        ParishPull x = landOf("l1999,h1999,s,a2999");
        items(x, 0, 0, 7, 7);
        due(x.film(0, 0, 0), 0);
        due(x.film(0, 0, 2), 0);
        due(itemOf(x, 0, 0, 0), 7);
        says("34: all six, to the row's last item, nothing else is touched");
        for (int lane = 0; lane < 3; lane++) {
            x = landOf("l1999,h1999,s,a2999");
            for (int k = 0; k < 6; k++) {
                x.good(20 + k, 1, k % 4);
            }
            x.hang(5, 999);
            items(x, 0, lane, 7, 8, 9, 9, 9, 9, 9, 9);
            due(x.film(0, lane, 3), -13);
            due(x.film(0, lane, 2), 6);
            int[] due = {7, 8, 20, 42, 0, 34, 24, 50};
            for (int i = 0; i < 8; i++) {
                due(itemOf(x, 0, lane, i), due[i]);
            }
            due(x.film(0, lane, 0), 6);
            due(itemOf(x, 0, lane, 0), 20);
            due(itemOf(x, 0, lane, 5), 50);
            due(itemOf(x, 0, lane, 6), 24);
        }
        says("34: the greatest weight fits a short");
        ParishPull y = landOf("h9555");
        y.good(99, 1, 0);
        y.sheet(0, 0, 1);
        due(y.film(0, 0, 0), 1);
        due(y.book(0, 99, 0, 0, 0, 0, 1, 1), 1);
    }

    private static void sheetEdges() {
        says("35: 0 to 24 items");
        ParishPull x = landOf("l1111");
        for (int sheet = 0; sheet < 4; sheet++) {
            due(x.sheet(sheet, sheet % 3, 24), 24);
            due(x.item(sheet, sheet % 3, 23, 1), 1);
            due(x.item(sheet, sheet % 3, 24, 1), -13);
            due(x.sheet(sheet, sheet % 3, 0), 0);
            due(x.item(sheet, sheet % 3, 0, 1), -13);
            due(x.sheet(sheet, sheet % 3, 1), 1);
            due(x.item(sheet, sheet % 3, 0, 1), 1);
            due(x.item(sheet, sheet % 3, 1, 1), -13);
        }
        says("35: a new row: of nothing but 0, of another lane, in place of the old one");
        items(x, 0, 0, 5, 6, 7);
        due(x.sheet(0, 0, 3), 3);
        for (int i = 0; i < 3; i++) {
            due(itemOf(x, 0, 0, i), 0);
        }
        due(x.sheet(0, 2, 3), 3);
        due(x.item(0, 0, 0, 1), -12);
        due(x.item(0, 2, 0, 1), 1);
        says("35: a shorter row, and a longer one behind it, keep nothing");
        items(x, 0, 1, 5, 6, 7);
        due(x.sheet(0, 1, 1), 1);
        due(x.sheet(0, 1, 3), 3);
        due(itemOf(x, 0, 1, 2), 0);
        says("36: how many items it had: 24, 0; then it holds nothing");
        x.sheet(1, 1, 24);
        due(x.drop(1), 24);
        due(x.drop(1), -11);
        x.sheet(1, 1, 0);
        due(x.drop(1), 0);
        due(x.drop(1), -11);
        due(x.item(1, 1, 0, 1), -11);
        says("35: a row once more where there was nothing");
        due(x.sheet(1, 2, 5), 5);
        due(x.drop(1), 5);
    }

    private static void itemBits() {
        says("37: its lowest bits: of a short 16");
        ParishPull x = landOf("l1111");
        x.sheet(0, 0, 1);
        bits(x, 0, 65536L + 5, 5);
        bits(x, 0, (1L << 40) + 65536L * 3 + 99, 99);
        bits(x, 0, -65536L + 6, 6);
        hole(x, 0, 32768);
        hole(x, 0, 65535);
        hole(x, 0, -1);
        noHole(x, 0, 32767);
        noHole(x, 0, -32769);
        says("37: of an int 32");
        x.sheet(0, 1, 1);
        bits(x, 1, (1L << 32) + 5, 5);
        bits(x, 1, Long.MIN_VALUE + 7, 7);
        hole(x, 1, 1L << 31);
        hole(x, 1, (1L << 32) - 1);
        noHole(x, 1, (1L << 31) - 1);
        noHole(x, 1, 32768);
        noHole(x, 1, 65535);
        noHole(x, 1, Long.MIN_VALUE);
        says("37: of a long all 64");
        x.sheet(0, 2, 1);
        bits(x, 2, 99, 99);
        hole(x, 2, Long.MIN_VALUE);
        hole(x, 2, -1);
        noHole(x, 2, Long.MAX_VALUE);
        noHole(x, 2, 1L << 31);
        noHole(x, 2, 1L << 32);
        noHole(x, 2, (1L << 32) + 5);
        due(itemOf(x, 0, 2, 0), -2);
    }

    private static void bits(ParishPull x, int lane, long v, int want) {
        due(x.item(0, lane, 0, v), 1);
        due(itemOf(x, 0, lane, 0), want);
    }

    /** A hole leaves all rows. */
    private static void hole(ParishPull x, int lane, long v) {
        due(x.item(0, lane, 0, v), 1);
        due(x.book(0, 1, 0, 0, lane, 0, 1, 0), 6561);
    }

    private static void noHole(ParishPull x, int lane, long v) {
        due(x.item(0, lane, 0, v), 1);
        due(x.book(0, 1, 0, 0, lane, 0, 1, 0), 0);
    }

    private static void copyEdges() {
        for (int lane = 0; lane < 3; lane++) {
            says("38: as if all were taken ahead: on to the right");
            copied(lane, 0, 0, 0, 1, 4, 1, 1, 2, 3, 4, 6);
            says("38: on to the left");
            copied(lane, 0, 1, 0, 0, 4, 2, 3, 4, 5, 5, 6);
            says("38: to where they are");
            copied(lane, 0, 0, 0, 0, 6, 1, 2, 3, 4, 5, 6);
            says("38: none");
            copied(lane, 0, 6, 0, 6, 0, 1, 2, 3, 4, 5, 6);
            says("38: to another one: all, the last to the first, nothing else");
            copied(lane, 1, 0, 0, 0, 6, 11, 12, 13, 14, 15, 16);
            copied(lane, 1, 5, 0, 0, 1, 16, 2, 3, 4, 5, 6);
            copied(lane, 1, 0, 0, 5, 1, 1, 2, 3, 4, 5, 11);
        }
        says("38: a long is not cut");
        ParishPull x = landOf("l1111");
        items(x, 0, 2, 1L << 32, -1);
        x.sheet(1, 2, 2);
        due(x.copy(0, 0, 1, 0, 2), 2);
        due(x.book(0, 1, 0, 1, 2, 0, 1, 0), 0);
        due(x.book(0, 1, 0, 1, 2, 1, 1, 0), 6561);
        says("38: what is copied is no part of the other row");
        x.item(0, 2, 1, 5);
        due(x.book(0, 1, 0, 1, 2, 1, 1, 0), 6561);
        says("38: rows of none");
        x.sheet(0, 2, 0);
        due(x.copy(0, 0, 1, 2, 0), 0);
        due(x.copy(0, 0, 1, 0, 1), -13);
        due(x.copy(1, 0, 0, 0, 1), -13);
    }

    /** Sheet 0 holds 1 .. 6, sheet 1 holds 11 .. 16; told what the goal, sheet 0, holds behind the copy. */
    private static void copied(int lane, int from, int i, int to, int j, int n, long... want) {
        ParishPull x = landOf("l1111");
        items(x, 0, lane, 1, 2, 3, 4, 5, 6);
        items(x, 1, lane, 11, 12, 13, 14, 15, 16);
        due(x.copy(from, i, to, j, n), n);
        for (int k = 0; k < want.length; k++) {
            due(itemOf(x, to, lane, k), want[k]);
        }
        for (int k = 0; k < 6; k++) {
            due(itemOf(x, 1, lane, k), 11 + k);
        }
    }
}
