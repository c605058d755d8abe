/** Each promise of the document by hand: ordinary inputs, the edges that it names, wrong inputs. */
public final class PromiseTest {
    private static final int LOW = Integer.MIN_VALUE;
    private static final int HIGH = Integer.MAX_VALUE;
    private static int wrong = 0;
    private static int asked = 0;

    private PromiseTest() {
    }

    public static void main(String[] args) {
        newObject();
        parishes();
        pulls();
        roadsAndTolls();
        carts();
        goods();
        ropes();
        people();
        told();
        weights();
        tape();
        lands();
        landFaults();
        counts();
        weeks();
        seasons();
        weeksEnd();
        ways();
        likeWays();
        freeRings();
        nets();
        trades();
        scales();
        takes();
        councils();
        leagues();
        parts();
        changes();
        wells();
        images();
        beams();
        evenBeams();
        books();
        mills();
        films();
        sheets();
        copies();
        orderOfRefusals();
        System.out.println(asked + " asked, " + wrong + " wrong");
        System.exit(wrong == 0 ? 0 : 1);
    }

    private static void due(String what, long got, long want) {
        asked++;
        if (got != want) {
            wrong++;
            System.out.println(what + " answered " + got + ", due is " + want);
        }
    }

    private static int read(ParishPull x, String text) {
        for (int k = 0; k < text.length(); k++) {
            x.type(text.charAt(k));
        }
        return x.land();
    }

    private static ParishPull landOf(String text) {
        ParishPull x = new ParishPull();
        if (read(x, text) < 0) {
            throw new IllegalStateException("not a land: " + text);
        }
        return x;
    }

    private static void items(ParishPull x, int sheet, int lane, long... values) {
        x.sheet(sheet, lane, values.length);
        for (int k = 0; k < values.length; k++) {
            x.item(sheet, lane, k, values[k]);
        }
    }

    private static void newObject() {
        ParishPull x = new ParishPull();
        for (int what = 0; what <= 7; what++) {
            due("1: count of a new object", x.count(what), 0);
        }
        due("1: no parish", x.of(0, 0), -1);
        due("1: no cart", x.told(0, 3), -1);
        due("1: no sheet", x.drop(0), -11);
        due("1: no image", x.restore(), -4);
    }

    private static void parishes() {
        ParishPull x = new ParishPull();
        due("2: kind -1", x.parish(-1), -1);
        due("2: kind 4", x.parish(4), -1);
        due("2: a wild kind", x.parish(LOW), -1);
        for (int k = 0; k < 8; k++) {
            due("2: its number", x.parish(k % 4), k);
            due("2: its kind", x.of(k, 0), k % 4);
            for (int season = 0; season < 4; season++) {
                due("2: its first pull", x.of(k, 1 + season), 5);
            }
        }
        due("2: a ninth one", x.parish(0), -3);
        due("2: BAD ahead of FULL", x.parish(4), -1);
        due("2: still 8", x.count(0), 8);
    }

    private static void pulls() {
        ParishPull x = landOf("l,h1234");
        due("3: what it was", x.pull(0, 2, 9), 5);
        due("3: what it was then", x.pull(0, 2, 1), 9);
        due("3: the season alone", x.of(0, 3), 1);
        due("3: not the next season", x.of(0, 4), 5);
        due("3: not the other parish", x.of(1, 3), 3);
        due("3: pull 0", x.pull(0, 0, 0), -1);
        due("3: pull 10", x.pull(0, 0, 10), -1);
        due("3: season -1", x.pull(0, -1, 5), -1);
        due("3: season 4", x.pull(0, 4, 5), -1);
        due("3: parish 2", x.pull(2, 0, 5), -1);
        due("3: parish -1", x.pull(-1, 0, 5), -1);
        due("3: refused ones change nothing", x.of(0, 1), 5);
    }

    private static void roadsAndTolls() {
        ParishPull x = landOf("l,l,l,l,l,l,l,l");
        due("4: a road", x.road(3, 1, 7), 0);
        due("4: the lesser first", x.told(0, 0), 1);
        due("4: the other", x.told(0, 1), 3);
        due("4: its toll", x.told(0, 2), 7);
        due("4: the pair again", x.road(1, 3, 0), -2);
        due("4: as it was told", x.road(3, 1, 0), -2);
        due("4: one parish", x.road(1, 1, 0), -1);
        due("4: toll 10", x.road(0, 1, 10), -1);
        due("4: toll -1", x.road(0, 1, -1), -1);
        due("4: parish 8", x.road(0, 8, 1), -1);
        due("4: BAD ahead of NOT", x.road(1, 3, 10), -1);
        due("5: a toll", x.toll(0, 9), 7);
        due("5: a toll again", x.toll(0, 0), 9);
        due("5: toll 10", x.toll(0, 10), -1);
        due("5: toll -1", x.toll(0, -1), -1);
        due("5: road 1", x.toll(1, 5), -1);
        due("5: road -1", x.toll(-1, 5), -1);
        due("5: refused ones change nothing", x.told(0, 2), 0);
        int roads = 1;
        for (int a = 0; a < 8 && roads < 15; a++) {
            for (int b = a + 1; b < 8 && roads < 15; b++) {
                if (a != 1 || b != 3) {
                    due("4: one more", x.road(a, b, 1), roads);
                    roads++;
                }
            }
        }
        due("4: a sixteenth", x.road(6, 7, 0), -3);
        due("4: NOT ahead of FULL", x.road(3, 1, 0), -2);
        due("4: still 15", x.count(1), 15);
        due("10: roads of a parish", x.of(0, 5), 7);
    }

    private static void carts() {
        ParishPull x = new ParishPull();
        due("6: bears -1", x.cart(-1, 0), -1);
        due("6: bears 1000", x.cart(1000, 0), -1);
        due("6: cost -1", x.cart(0, -1), -1);
        due("6: cost 100", x.cart(0, 100), -1);
        due("6: the least", x.cart(0, 0), 0);
        due("6: the most", x.cart(999, 99), 1);
        due("6: third", x.cart(5, 5), 2);
        due("6: fourth", x.cart(6, 6), 3);
        due("6: a fifth", x.cart(7, 7), -3);
        due("6: BAD ahead of FULL", x.cart(7, 100), -1);
        due("11: bears", x.told(1, 3), 999);
        due("11: cost", x.told(1, 4), 99);
    }

    private static void goods() {
        ParishPull x = landOf("l,h");
        due("7: mass 0", x.good(0, 1, 0), -1);
        due("7: mass 100", x.good(100, 1, 0), -1);
        due("7: price 0", x.good(1, 0, 0), -1);
        due("7: price 10", x.good(1, 10, 0), -1);
        due("7: parish 2", x.good(1, 1, 2), -1);
        due("7: parish -1", x.good(1, 1, -1), -1);
        due("7: a good", x.good(99, 9, 1), 0);
        due("11: its mass", x.told(0, 5), 99);
        due("11: its price", x.told(0, 6), 9);
        due("11: its parish", x.told(0, 7), 1);
        due("11: it lies", x.told(0, 8), 0);
        for (int k = 1; k < 6; k++) {
            due("7: one more", x.good(1, 1, 0), k);
        }
        due("7: a seventh", x.good(1, 1, 0), -3);
        due("7: BAD ahead of FULL", x.good(1, 1, 2), -1);
        due("10: goods there", x.of(1, 6), 1);
        due("10: goods in the other", x.of(0, 6), 62);
    }

    private static void ropes() {
        ParishPull x = landOf("l,s");
        x.good(10, 1, 0);
        x.good(10, 1, 1);
        due("8: rope 1 of weight 50", x.hang(0, 1), -2);
        due("8: rope 49 of weight 50", x.hang(0, 49), -2);
        due("8: it still lies", x.told(0, 8), 0);
        due("8: rope 50 of weight 50", x.hang(0, 50), 0);
        due("8: another rope", x.hang(0, 999), 50);
        due("8: rope 1000", x.hang(0, 1000), -1);
        due("8: rope -1", x.hang(0, -1), -1);
        due("8: good 2", x.hang(2, 5), -1);
        due("8: good -1", x.hang(-1, 5), -1);
        due("8: too weak a rope", x.hang(0, 49), -2);
        due("8: refused ones change nothing", x.told(0, 8), 999);
        due("8: it hangs there still", x.of(0, 6), 1);
        due("15: one hangs", x.count(7), 1);
        due("8: on a sea all hold", x.hang(1, 1), 0);
        due("15: two hang", x.count(7), 2);
        due("8: it lies again", x.hang(0, 0), 999);
        due("15: one hangs again", x.count(7), 1);
    }

    private static void people() {
        ParishPull x = landOf("l,h");
        due("9: mass 0", x.person(0, 0), -1);
        due("9: mass 100", x.person(100, 0), -1);
        due("9: parish 2", x.person(1, 2), -1);
        due("9: one", x.person(70, 1), 0);
        due("11: mass", x.told(0, 9), 70);
        due("11: parish", x.told(0, 10), 1);
        for (int k = 1; k < 6; k++) {
            due("9: one more", x.person(k, 0), k);
        }
        due("9: a seventh", x.person(1, 0), -3);
        due("9: BAD ahead of FULL", x.person(0, 0), -1);
        due("10: people there", x.of(1, 7), 1);
        due("10: people in the other", x.of(0, 7), 62);
    }

    private static void told() {
        ParishPull x = landOf("l,h;01t4");
        x.cart(9, 8);
        x.good(7, 6, 1);
        x.person(5, 0);
        int[] due = {0, 1, 4, 9, 8, 7, 6, 1, 0, 5, 0};
        for (int what = 0; what <= 10; what++) {
            due("11: what " + what, x.told(0, what), due[what]);
            due("11: number 1, what " + what, x.told(1, what), -1);
            due("11: number -1, what " + what, x.told(-1, what), -1);
        }
        due("11: what 11", x.told(0, 11), -1);
        due("11: what -1", x.told(0, -1), -1);
        due("10: what 8", x.of(0, 8), -1);
        due("10: what -1", x.of(0, -1), -1);
        due("10: parish 2", x.of(2, 0), -1);
        due("10: parish -1", x.of(-1, 0), -1);
        due("10: kind", x.of(1, 0), 1);
        due("10: roads", x.of(1, 5), 1);
    }

    private static void weights() {
        ParishPull x = landOf("l3555,h3555,s3555,a3555,a2555");
        due("12: land", x.weighs(0, 7), 21);
        due("12: hill", x.weighs(1, 7), 28);
        due("12: sea", x.weighs(2, 7), 0);
        due("12: air", x.weighs(3, 7), 14);
        due("12: air is cut", x.weighs(4, 7), 10);
        due("12: mass 99", x.weighs(0, 99), 297);
        due("12: mass 0", x.weighs(0, 0), -1);
        due("12: mass 100", x.weighs(0, 100), -1);
        due("12: parish 5", x.weighs(5, 1), -1);
        due("12: parish -1", x.weighs(-1, 1), -1);
        x.pull(0, 1, 9);
        due("12: another season's pull counts for nothing", x.weighs(0, 7), 21);
    }

    private static void tape() {
        ParishPull x = new ParishPull();
        due("13: 31", x.type(31), -1);
        due("13: 127", x.type(127), -1);
        due("13: a wild letter", x.type(HIGH), -1);
        for (int k = 1; k <= 120; k++) {
            due("13: how many", x.type(k % 2 == 0 ? 32 : 126), k);
        }
        due("13: one more", x.type(65), -3);
        due("13: BAD ahead of FULL", x.type(127), -1);
        due("14: its fault", x.land(), -20);
        due("14: it is empty then", x.type(65), 1);
        due("14: 120 blanks", read(new ParishPull(), " ".repeat(120)), -140);
        due("14: 120 letters, then the end", read(new ParishPull(), "l" + " ".repeat(118) + ","), -140);
        due("14: 120 letters", read(new ParishPull(), "l" + " ".repeat(117) + ",h"), 2);
    }

    private static void lands() {
        ParishPull x = new ParishPull();
        x.cart(10, 1);
        due("14: eight parishes", read(x, "l,h,s,a,l1234,h9876,s,a;01,12t3,70t9"), 8);
        int[] kinds = {0, 1, 2, 3, 0, 1, 2, 3};
        for (int k = 0; k < 8; k++) {
            due("14: kind of " + k, x.of(k, 0), kinds[k]);
        }
        for (int season = 0; season < 4; season++) {
            due("14: pull", x.of(4, 1 + season), 1 + season);
            due("14: pull", x.of(5, 1 + season), 9 - season);
            due("14: pull else", x.of(6, 1 + season), 5);
        }
        due("14: three roads", x.count(1), 3);
        due("14: toll else", x.told(0, 2), 0);
        due("14: toll", x.told(1, 2), 3);
        due("14: the lesser", x.told(2, 0), 0);
        due("14: the other", x.told(2, 1), 7);
        due("14: toll 9", x.told(2, 2), 9);
        x.good(1, 1, 0);
        x.person(1, 0);
        x.weeks(14);
        due("14: a fault", read(x, "l,x"), -22);
        due("14: all stays", x.count(0), 8);
        due("14: all stays", x.count(3), 1);
        due("14: blanks", read(x, "  l 1 2  34 ,s ; 0 1 t 7  "), 2);
        due("14: in place of all roads", x.count(1), 1);
        due("14: goods are gone", x.count(3), 0);
        due("14: people are gone", x.count(4), 0);
        due("14: carts stay", x.count(2), 1);
        due("14: the week stays", x.count(5), 14);
        due("14: the toll behind blanks", x.told(0, 2), 7);
        due("14: a new good lies", x.good(1, 1, 0), 0);
        due("14: fifteen roads", read(x, "l,l,l,l,l,l,l,l;01,02,03,04,05,06,07,12,13,14,15,16,17,23,24"), 8);
        due("14: fifteen roads", x.count(1), 15);
    }

    private static void landFaults() {
        Object[][] faults = {{"", -20}, {"   ", -23}, {"x", -20}, {"  x", -22}, {"L", -20}, {",", -20}, {"l,", -22},
            {"l , ", -24}, {"l,,h", -22}, {"lh", -21}, {"l0", -21}, {"l1", -22}, {"l1 ", -23}, {"l123", -24},
            {"l1230", -24}, {"l123,h", -24}, {"l12345", -25}, {"l;", -22}, {"l;0", -23}, {"l;00", -23},
            {"l;01", -23}, {"l;1", -22}, {"l,h;", -24}, {"l,h;2", -24}, {"l,h;02", -25}, {"l,h;00", -25},
            {"l,h;0 0", -26}, {"l,h;01;", -26}, {"l,h;01,", -27}, {"l,h;01,10", -28}, {"l,h;01,01", -28},
            {"l,h;01t", -27}, {"l,h;01tx", -27}, {"l,h;01t55", -28}, {"l,h;015", -26}, {"l,h;01 t 5 x", -31},
            {"l,h;t", -24}, {"l,h;0t", -25}, {"l,l,l,l,l,l,l,l,l", -35},
            {"l,l,l,l,l,l,l,l;01,02,03,04,05,06,07,12,13,14,15,16,17,23,24,25", -20 - 60}};
        for (Object[] fault : faults) {
            ParishPull x = new ParishPull();
            x.parish(2);
            due("14: fault of '" + fault[0] + "'", read(x, (String) fault[0]), (Integer) fault[1]);
            due("14: all stays behind '" + fault[0] + "'", x.count(0) * 10 + x.of(0, 0), 12);
            due("14: the tape is empty behind '" + fault[0] + "'", x.type('l'), 1);
        }
    }

    private static void counts() {
        ParishPull x = landOf("l,l,l;01,02");
        x.cart(1, 1);
        x.cart(1, 1);
        x.cart(1, 1);
        x.good(1, 1, 0);
        x.hang(0, 9);
        x.person(1, 0);
        x.weeks(27);
        int[] due = {3, 2, 3, 1, 1, 27, 2, 1};
        for (int what = 0; what <= 7; what++) {
            due("15: what " + what, x.count(what), due[what]);
        }
        due("15: what 8", x.count(8), -1);
        due("15: what -1", x.count(-1), -1);
    }

    private static void weeks() {
        ParishPull x = landOf("l9999,l3333,l3333,h1111;03,02,01");
        x.person(10, 0);
        x.person(10, 2);
        x.good(10, 1, 0);
        x.good(10, 1, 0);
        x.hang(0, 90);
        due("16: n 0", x.weeks(0), -1);
        due("16: n 53", x.weeks(53), -1);
        due("16: one goes", x.weeks(1), 100);
        due("16: to the lightest", x.of(3, 7), 1);
        due("16: the other stays, as none joined is lighter", x.of(2, 7), 2);
        x.pull(3, 0, 9);
        due("16: it goes to one joined alone, and then to the lightest there, the first of like ones",
                x.weeks(2), 200);
        due("16: the first of like ones", x.of(1, 7), 1);
        x.pull(0, 0, 8);
        due("16: no fall", x.weeks(1), 0);
        due("8: hung above what it weighs", x.hang(1, 80), 0);
        x.pull(0, 0, 9);
        due("16: the one with the weaker rope falls", x.weeks(1), 1);
        due("16: it lies then", x.told(1, 8), 0);
        due("16: the other hangs", x.told(0, 8), 90);
        due("16: fallen once", x.weeks(1), 0);
        ParishPull y = landOf("l1111");
        y.good(1, 1, 0);
        due("8: the weakest rope", y.hang(0, 1), 0);
        due("16: it holds", y.weeks(1), 0);
        due("27: the weakest rope", y.change(0, 2, 0), 1);
        y.pull(0, 0, 2);
        due("16: it falls", y.weeks(1), 1);
    }

    private static void seasons() {
        ParishPull x = landOf("l1234,l4321;01");
        x.person(1, 0);
        x.good(50, 1, 0);
        x.hang(0, 149);
        due("16: nothing in season 0", x.weeks(12), 0);
        due("15: season 0 ends behind week 12", x.count(6), 0);
        due("16: in season 1 parish 0 is lighter still", x.weeks(1), 0);
        due("15: season 1", x.count(6), 1);
        due("12: the season's pull", x.weighs(0, 1), 2);
        due("16: in season 2 the other is lighter, and the rope is too weak", x.weeks(13), 101);
        due("11: it went", x.told(0, 10), 1);
        due("16: season 3", x.weeks(13), 0);
        due("16: and back in season 0 of the next year", x.weeks(13), 100);
        due("15: season 0", x.count(6), 0);
        due("15: week 52", x.count(5), 52);
    }

    private static void weeksEnd() {
        ParishPull x = new ParishPull();
        for (int k = 0; k < 192; k++) {
            x.weeks(52);
        }
        due("15: week 9984", x.count(5), 9984);
        due("16: above 9999", x.weeks(16), -3);
        due("16: BAD ahead of FULL", x.weeks(53), -1);
        due("16: refused ones change nothing", x.count(5), 9984);
        due("16: to 9999", x.weeks(15), 0);
        due("16: one more", x.weeks(1), -3);
        due("15: season of week 9999", x.count(6), 9999 / 13 % 4);
    }

    private static void ways() {
        ParishPull x = landOf("l2555,l9555,l1555,s;01t5,12t5,02t9,23t9");
        x.cart(999, 3);
        x.cart(89, 3);
        x.cart(19, 3);
        due("17: the toll is of the weight in the parish left, cut", x.way(0, 7, 1, 2, -1), 3 + 5 * 63 / 10);
        due("17: straight", x.way(0, 7, 0, 2, -1), 3 + 9 * 14 / 10);
        due("17: not round by the heavy one", x.way(0, 7, 0, 2, 1), 2);
        due("17: from the sea no toll", x.way(0, 99, 3, 2, -1), 3);
        due("17: to itself", x.way(0, 99, 1, 1, -1), 0);
        due("17: to itself, 0", x.way(0, 99, 1, 1, 0), 1);
        due("17: to itself, 1", x.way(0, 99, 1, 1, 1), -4);
        due("17: the cart breaks on the way's end", x.way(1, 10, 0, 1, -1), -4);
        due("17: the cart bears just that", x.way(0, 10, 0, 1, -1), 3 + 10);
        due("17: it breaks where it starts", x.way(2, 10, 0, 2, -1), -4);
        due("17: also to itself", x.way(2, 10, 0, 0, -1), -4);
        due("17: what it just bears", x.way(2, 9, 0, 2, -1), 3 + 9 * 18 / 10);
        due("17: no i-th", x.way(0, 7, 0, 2, 2), -4);
        due("17: no 7th", x.way(0, 7, 0, 2, 7), -4);
        due("17: i 8", x.way(0, 7, 0, 2, 8), -1);
        due("17: i -2", x.way(0, 7, 0, 2, -2), -1);
        due("17: mass 0", x.way(0, 0, 0, 2, -1), -1);
        due("17: mass 100", x.way(0, 100, 0, 2, -1), -1);
        due("17: cart 3", x.way(3, 7, 0, 2, -1), -1);
        due("17: from 4", x.way(0, 7, 4, 2, -1), -1);
        due("17: to -1", x.way(0, 7, 0, -1, -1), -1);
        x.parish(0);
        due("17: no road", x.way(0, 7, 0, 4, -1), -4);
        due("17: no road, 0", x.way(0, 7, 0, 4, 0), -4);
    }

    private static void likeWays() {
        ParishPull x = landOf("l,l,l,l,l;04,03,02,24,34,01");
        x.cart(999, 0);
        due("17: of like ones the first row, though longer", x.way(0, 9, 0, 4, 1), 2);
        due("17: and on", x.way(0, 9, 0, 4, 2), 4);
        x.toll(0, 1);
        due("17: the same with a toll on the straight road", x.way(0, 9, 0, 4, 1), 2);
        x.toll(2, 9);
        due("17: the next row", x.way(0, 9, 0, 4, 1), 3);
    }

    private static void freeRings() {
        ParishPull x = landOf("l,l,l,l,l,l;50,01,12,20,53,34,14,45");
        x.cart(999, 0);
        int[] due = {5, 0, 1, 4, 3};
        for (int k = 0; k < due.length; k++) {
            due("17: no parish twice, " + k, x.way(0, 9, 5, 3, k), due[k]);
        }
        due("17: its end", x.way(0, 9, 5, 3, 5), -4);
        int[] other = {2, 0, 1, 4, 3, 5};
        ParishPull y = landOf("l,l,l,l;10,13,02");
        y.cart(999, 0);
        due("17: a step into a blind ring is left out", y.way(0, 9, 1, 3, 1), 3);
        for (int k = 0; k < other.length; k++) {
            due("17: the first row goes the longest way round, " + k, x.way(0, 9, 2, 5, k), other[k]);
        }
    }

    private static void nets() {
        ParishPull x = landOf("l2555,l9555,h9555,s;01t5,03,12");
        x.cart(500, 3);
        x.cart(19, 3);
        x.good(10, 4, 0);
        due("18: where it is", x.net(0, 0, 0), 80);
        due("18: less what its way costs", x.net(0, 1, 0), 360 - 3 - 10);
        due("18: below 0", x.net(0, 3, 0), -3);
        due("18: two roads", x.net(0, 2, 0), 400 - 3 - 10 - 3);
        due("18: no way", x.net(0, 0, 1), -1000004);
        due("18: good 1", x.net(1, 0, 0), -1000001);
        due("18: parish 4", x.net(0, 4, 0), -1000001);
        due("18: cart 2", x.net(0, 0, 2), -1000001);
        due("19: market", x.market(0, 0), 2);
        due("19: the cart does not bear it", x.market(0, 1), -4);
        due("19: good -1", x.market(-1, 0), -1);
        due("19: cart 2", x.market(0, 2), -1);
        ParishPull y = landOf("l,l,l;01,12");
        y.cart(999, 0);
        y.cart(999, 1);
        y.good(10, 4, 2);
        due("19: of like ones the first", y.market(0, 0), 0);
        due("19: not if the way costs", y.market(0, 1), 2);
    }

    private static void trades() {
        ParishPull x = landOf("l2555,l9555,h9555,s;01t5,12");
        x.cart(500, 3);
        x.cart(500, 99);
        x.cart(0, 0);
        x.good(10, 4, 3);
        due("20: gain", x.trade(0, 0, 0), 400 - 80 - 3 - 10 - 3);
        due("20: pair", x.trade(0, 0, 1), 2);
        due("20: a dear cart", x.trade(0, 1, 0), 360 - 80 - 99 - 10);
        due("20: its pair", x.trade(0, 1, 1), 1);
        due("20: no way between any two", x.trade(0, 2, 0), -1000004);
        due("20: what 2", x.trade(0, 0, 2), -1000001);
        due("20: what -1", x.trade(0, 0, -1), -1000001);
        due("20: good 1", x.trade(1, 0, 0), -1000001);
        due("20: cart 3", x.trade(0, 3, 0), -1000001);
        ParishPull y = landOf("l,l,l;12,01");
        y.cart(999, 7);
        y.good(10, 4, 2);
        due("20: the most gain may be below 0", y.trade(0, 0, 0), -7);
        due("20: of like ones the first", y.trade(0, 0, 1), 1);
        ParishPull z = landOf("l");
        z.cart(999, 7);
        z.good(10, 4, 0);
        due("20: one parish alone", z.trade(0, 0, 1), -1000004);
    }

    private static void scales() {
        ParishPull x = landOf("l,l,l,l;01,12,23");
        x.cart(999, 0);
        x.good(10, 1, 0);
        due("21: no trade gains", x.scales(0, 0), 0);
        x.pull(2, 0, 9);
        due("21: scales in the heavy one", x.scales(0, 0), 4);
        x.pull(0, 0, 1);
        due("21: and in the light one", x.scales(0, 0), 5);
        x.pull(1, 0, 9);
        x.pull(2, 0, 5);
        x.pull(0, 0, 5);
        due("21: one", x.scales(0, 0), 2);
        ParishPull y = landOf("l4555,l6555;01");
        y.cart(999, 9);
        y.cart(999, 10);
        y.cart(999, 20);
        y.good(10, 1, 0);
        due("21: of like ones the least set", y.scales(0, 1), 1);
        due("21: two, where one alone leaves a gain", y.scales(0, 0), 3);
        due("21: none", y.scales(0, 2), 0);
        due("21: good 1", y.scales(1, 0), -1);
        due("21: cart 3", y.scales(0, 3), -1);
        ParishPull z = landOf("s,a9555;01");
        z.cart(999, 0);
        z.good(10, 1, 0);
        due("21: carried as it is", z.scales(0, 0), 1);
    }

    private static void takes() {
        ParishPull x = landOf("l2555,l9555,s;01t5");
        x.cart(500, 3);
        x.cart(19, 3);
        x.good(10, 4, 0);
        x.good(20, 4, 1);
        x.good(9, 4, 2);
        due("22: two", x.take(1, 0), 2);
        due("22: none", x.take(0, 0), 0);
        due("22: one", x.take(2, 0), 1);
        due("22: by a weak cart none", x.take(1, 1), 0);
        due("22: parish 3", x.take(3, 0), -1);
        due("22: cart 2", x.take(0, 2), -1);
    }

    private static void councils() {
        ParishPull x = landOf("l,l,l;01,02");
        x.cart(999, 0);
        due("23: without goods all rest", x.councils(1, 2, 0, 0), 81);
        due("23: the first", x.councils(1, 2, 0, 1), 11);
        x.good(10, 4, 0);
        due("23: rests", x.councils(1, 2, 0, 0), 9);
        due("23: the first", x.councils(1, 2, 0, 1), 91);
        due("23: the other way", x.councils(2, 1, 0, 1), 19);
        due("23: all is as it was", x.of(1, 1) * 10 + x.of(2, 1), 55);
        ParishPull y = landOf("l,l;01");
        y.cart(52, 0);
        y.good(7, 1, 1);
        y.good(5, 7, 0);
        due("23: no rests", y.councils(0, 1, 0, 0), 0);
        due("23: none is the first", y.councils(0, 1, 0, 1), -4);
        due("23: alike", x.councils(1, 1, 0, 0), -1);
        due("23: what 2", x.councils(1, 2, 0, 2), -1);
        due("23: what -1", x.councils(1, 2, 0, -1), -1);
        due("23: parish 3", x.councils(3, 2, 0, 0), -1);
        due("23: parish -1", x.councils(1, -1, 0, 0), -1);
        due("23: cart 1", x.councils(1, 2, 1, 0), -1);
    }

    private static void leagues() {
        ParishPull x = landOf("l,l9555,l9555;01t9,12t9");
        x.cart(999, 1);
        x.good(10, 1, 0);
        due("24: nobody", x.league(0, 0), 0);
        due("24: one alone", x.league(2, 0), 0);
        due("24: without it", x.net(0, x.market(0, 0), 0), 50);
        due("24: two", x.league(3, 0), 39);
        due("24: two of no use", x.league(6, 0), 0);
        due("24: all", x.league(7, 0), 39);
        due("24: tolls stay", x.told(0, 2), 9);
        due("24: set 8", x.league(8, 0), -1000001);
        due("24: set -1", x.league(-1, 0), -1000001);
        due("24: cart 1", x.league(0, 1), -1000001);
        ParishPull y = new ParishPull();
        y.cart(1, 1);
        due("24: nobody of no parish", y.league(0, 0), 0);
        due("24: set 1 of no parish", y.league(1, 0), -1000001);
    }

    private static void parts() {
        ParishPull x = landOf("l,l,l9555,s;01t1,12t1,02t9");
        x.cart(999, 0);
        x.good(10, 1, 0);
        due("24: 0 and 1", x.league(3, 0), 5);
        due("24: 0 and 2", x.league(5, 0), 10);
        due("24: all three", x.league(7, 0), 10);
        due("25: upper of 0", x.upper(0, 7, 0), 25);
        due("26: lower of 0", x.lower(0, 7, 0), 6);
        due("25: upper of 1", x.upper(1, 7, 0), 5);
        due("26: lower of 1", x.lower(1, 7, 0), 3);
        due("25: upper of 2", x.upper(2, 7, 0), 25);
        due("26: lower of 2", x.lower(2, 7, 0), 6);
        due("25: 0", x.upper(3, 15, 0), 0);
        due("26: 0 of 1", x.lower(3, 15, 0), 1);
        due("25: alone", x.upper(0, 1, 0), 0);
        due("26: alone", x.lower(0, 1, 0), 1);
        due("25: a whole one", x.upper(0, 5, 0), 5);
        due("26: a whole one", x.lower(0, 5, 0), 1);
        due("25: not of it", x.upper(1, 5, 0), -1000001);
        due("26: not of it", x.lower(1, 5, 0), -1);
        due("25: parish 4", x.upper(4, 16, 0), -1000001);
        due("26: parish 4", x.lower(4, 16, 0), -1);
        due("25: parish -1", x.upper(-1, 7, 0), -1000001);
        due("25: set 16", x.upper(0, 17, 0), -1000001);
        due("26: set -1", x.lower(0, -1, 0), -1);
        due("25: cart 1", x.upper(0, 7, 1), -1000001);
        due("26: cart 1", x.lower(0, 7, 1), -1);
    }

    private static void changes() {
        ParishPull x = landOf("l,h,s;01");
        x.good(10, 1, 0);
        x.good(10, 1, 0);
        x.good(10, 1, 1);
        x.good(10, 1, 2);
        x.hang(0, 60);
        x.hang(2, 60);
        x.hang(3, 1);
        x.person(10, 0);
        x.person(10, 1);
        x.person(10, 2);
        x.person(20, 0);
        due("27: holds", x.change(0, 6, 0), 0);
        due("27: falls", x.change(0, 7, 0), 1);
        due("27: on the hill", x.change(1, 6, 0), 4);
        due("27: on the sea nothing", x.change(2, 9, 0), 0);
        due("27: lighter", x.change(0, 4, 1), 9);
        due("27: not lighter", x.change(0, 5, 1), 0);
        due("27: lighter on the hill", x.change(1, 1, 1), 2);
        due("27: not on the sea", x.change(2, 1, 1), 0);
        due("27: all is as it was", x.of(0, 1), 5);
        due("27: pull 0", x.change(0, 0, 0), -1);
        due("27: pull 10", x.change(0, 10, 0), -1);
        due("27: parish 3", x.change(3, 5, 0), -1);
        due("27: parish -1", x.change(-1, 5, 1), -1);
        due("27: what 2", x.change(0, 5, 2), -1);
        due("27: what -1", x.change(0, 5, -1), -1);
        x.pull(0, 0, 9);
        due("27: what weighs too much now would hold", x.change(0, 6, 0), 0);
        due("27: what weighs too much already falls by no change elsewhere", x.change(1, 5, 0), 0);
        due("27: it would fall by a change there that leaves it too heavy", x.change(0, 8, 0), 1);
    }

    private static void wells() {
        ParishPull x = landOf("l2555,h2555,s2555,a2555");
        due("28: land", x.well(0, 999), 1998);
        due("28: hill", x.well(1, 10), 30);
        due("28: sea", x.well(2, 10), -4);
        due("28: air, cut", x.well(3, 10), 10);
        due("28: deep 0", x.well(0, 0), -1);
        due("28: deep 1000", x.well(0, 1000), -1);
        due("28: BAD ahead of NONE", x.well(2, 0), -1);
        due("28: parish 4", x.well(4, 1), -1);
        due("28: parish -1", x.well(-1, 1), -1);
    }

    private static void images() {
        ParishPull x = landOf("l1234,h;01t3");
        x.cart(5, 6);
        x.good(7, 8, 0);
        x.person(9, 0);
        x.hang(0, 10);
        x.weeks(3);
        x.sheet(0, 1, 3);
        x.type('l');
        due("29: an image", x.image(), 1);
        x.pull(0, 0, 9);
        x.toll(0, 9);
        x.parish(2);
        x.road(1, 2, 2);
        x.cart(1, 1);
        x.good(1, 1, 2);
        x.person(1, 2);
        x.hang(0, 0);
        x.weeks(20);
        x.sheet(0, 2, 5);
        x.sheet(1, 2, 6);
        x.type('h');
        due("30: restored", x.restore(), 1);
        int[] due = {2, 1, 1, 1, 1, 3, 0, 1};
        for (int what = 0; what <= 7; what++) {
            due("30: count " + what, x.count(what), due[what]);
        }
        due("30: pull", x.of(0, 1), 1);
        due("30: toll", x.told(0, 2), 3);
        due("30: rope", x.told(0, 8), 10);
        due("30: place", x.told(0, 10), 0);
        due("30: the tape goes on", x.type('s'), 3);
        due("30: sheets stay", x.drop(0), 5);
        due("30: sheets stay", x.drop(1), 6);
        x.weeks(1);
        due("30: once more", x.restore(), 1);
        due("30: week", x.count(5), 3);
        x.weeks(4);
        due("29: another image", x.image(), 1);
        x.weeks(4);
        due("30: that one", x.restore(), 1);
        due("30: its week", x.count(5), 7);
    }

    private static void beams() {
        ParishPull x = landOf("l3555,h5555,s");
        items(x, 0, 0, 0, 10, -3, 5, 4, 99, 6);
        due("31: turning", x.beam(0, 1, 0, 0, 1, 2, 0), 5 * 6 * 4 - 10 * 3 * 3);
        due("31: left alone", x.beam(0, 1, 0, 0, 1, 1, 0), -90);
        due("31: right alone", x.beam(0, 1, 0, 0, 3, 2, 0), 120 + 99 * 6 * 6);
        due("31: none", x.beam(0, 1, 0, 0, 7, 0, 0), 0);
        due("31: none is even", x.beam(0, 1, 0, 0, 7, 0, 1), 0);
        due("31: one parish on both sides", x.beam(1, 1, 0, 0, 1, 2, 0), 120 - 180);
        due("31: mass 0", x.beam(0, 1, 0, 0, 0, 1, 0), -1000002);
        due("31: mass 0, even", x.beam(0, 1, 0, 0, 0, 1, 1), -1000002);
        due("31: index", x.beam(0, 1, 0, 0, 4, 2, 0), -1000013);
        due("31: index -1", x.beam(0, 1, 0, 0, -1, 1, 0), -1000013);
        due("31: a wild index", x.beam(0, 1, 0, 0, HIGH, 8, 0), -1000013);
        due("31: lane", x.beam(0, 1, 0, 1, 1, 2, 0), -1000012);
        due("31: nothing there", x.beam(0, 1, 1, 0, 1, 2, 0), -1000011);
        due("31: n -1", x.beam(0, 1, 0, 0, 1, -1, 0), -1000001);
        due("31: n 9", x.beam(0, 1, 0, 0, 1, 9, 0), -1000001);
        due("31: what 2", x.beam(0, 1, 0, 0, 1, 1, 2), -1000001);
        due("31: left 3", x.beam(3, 1, 0, 0, 1, 1, 0), -1000001);
        due("31: right -1", x.beam(0, -1, 0, 0, 1, 1, 0), -1000001);
        due("31: sheet 4", x.beam(0, 1, 4, 0, 1, 1, 0), -1000001);
        due("31: lane 3", x.beam(0, 1, 0, 3, 1, 1, 0), -1000001);
        long[][] bad = {{100, 1}, {-1, 1}, {1, 0}, {1, 7}, {1, -7}, {1L << 32 | 1, 1}, {1, 1L << 32 | 1}};
        for (long[] stone : bad) {
            items(x, 1, 2, stone);
            due("31: a stone not as told", x.beam(0, 1, 1, 2, 0, 1, 0), -1000002);
        }
    }

    private static void evenBeams() {
        ParishPull x = landOf("l3555,h5555,s,l2555");
        items(x, 0, 1, 10, -3, 5, 4);
        due("31: two to the left", x.beam(0, 1, 0, 1, 0, 2, 1), 2);
        items(x, 0, 1, 1, -1);
        due("31: one and one", x.beam(0, 1, 0, 1, 0, 1, 1), 2);
        due("31: odd weights against even ones", x.beam(0, 3, 0, 1, 0, 1, 1), 2);
        items(x, 0, 1, 1, 1, 1, -2);
        due("31: even already", x.beam(0, 1, 0, 1, 0, 2, 1), 0);
        items(x, 0, 1, 4, 2);
        due("31: nothing weighs to the left", x.beam(2, 0, 0, 1, 0, 1, 1), -1000004);
        due("31: on two seas it is even", x.beam(2, 2, 0, 1, 0, 1, 1), 0);
        items(x, 0, 1, 30, 6);
        due("31: just 30", x.beam(0, 0, 0, 1, 0, 1, 1), 30);
        items(x, 0, 1, 30, 6, 1, 1);
        due("31: more than 30", x.beam(0, 0, 0, 1, 0, 2, 1), -1000004);
        items(x, 0, 1, 30, -6);
        due("31: just 30 to the right", x.beam(0, 0, 0, 1, 0, 1, 1), 30);
        ParishPull y = landOf("l1555,l1555");
        items(y, 0, 1, 99, 1, 80, 1);
        due("31: the least weights, just 30", y.beam(0, 1, 0, 1, 0, 2, 1), 30);
        due("31: the least weights", y.beam(0, 1, 0, 1, 0, 1, 1), 17);
        due("31: to the right on a sea", x.beam(0, 2, 0, 1, 0, 1, 1), -1000004);
    }

    private static void books() {
        ParishPull x = landOf("l,h,s,a");
        items(x, 0, 1, 12, 12, -1, 20);
        due("32: one season known", x.book(0, 4, 10, 0, 1, 0, 3, 0), 729);
        due("32: sure", x.book(0, 4, 10, 0, 1, 0, 3, 1), 1);
        due("32: none is false", x.book(0, 4, 10, 0, 1, 0, 3, 2), -4);
        due("32: two seasons known", x.book(0, 4, 10, 0, 1, 0, 4, 0), 81);
        due("32: sure", x.book(0, 4, 10, 0, 1, 0, 4, 1), 3);
        due("32: in one season false", x.book(0, 4, 0, 0, 1, 0, 4, 0), 0);
        due("32: no row", x.book(0, 4, 0, 0, 1, 0, 4, 1), -4);
        due("32: false", x.book(0, 4, 0, 0, 1, 0, 4, 2), 3);
        due("32: counted from the book's first", x.book(0, 4, 0, 0, 1, 1, 3, 2), 2);
        due("32: season 3 and 0", x.book(0, 4, 49, 0, 1, 0, 4, 1), 9);
        items(x, 0, 1, 3, 5, 0, 4);
        due("32: air fits two pulls", x.book(3, 1, 0, 0, 1, 0, 1, 0), 2 * 729);
        due("32: not sure", x.book(3, 1, 0, 0, 1, 0, 1, 1), 0);
        due("32: the last air", x.book(3, 1, 0, 0, 1, 1, 1, 0), 729);
        due("32: sea", x.book(2, 1, 0, 0, 1, 2, 1, 0), 6561);
        due("32: no pull fits", x.book(2, 1, 0, 0, 1, 2, 2, 2), 1);
        due("32: too light at once", x.book(1, 4, 0, 0, 1, 3, 1, 2), 0);
        items(x, 0, 2, (1L << 32) + 12, Long.MIN_VALUE);
        due("32: long items are whole", x.book(0, 4, 0, 0, 2, 0, 1, 0), 0);
        due("32: a wild hole", x.book(0, 4, 0, 0, 2, 1, 1, 0), 6561);
        x.sheet(1, 0, 24);
        due("32: 24 weeks to the last", x.book(2, 1, 9975, 1, 0, 0, 24, 0), 6561);
        due("32: week 9976", x.book(2, 1, 9976, 1, 0, 0, 24, 0), -1);
        due("32: week -1", x.book(2, 1, -1, 1, 0, 0, 24, 0), -1);
        due("32: n 0", x.book(2, 1, 0, 1, 0, 0, 0, 0), -1);
        due("32: n 25", x.book(2, 1, 0, 1, 0, 0, 25, 0), -1);
        due("32: mass 0", x.book(2, 0, 0, 1, 0, 0, 1, 0), -1);
        due("32: mass 100", x.book(2, 100, 0, 1, 0, 0, 1, 0), -1);
        due("32: parish 4", x.book(4, 1, 0, 1, 0, 0, 1, 0), -1);
        due("32: what 3", x.book(2, 1, 0, 1, 0, 0, 1, 3), -1);
        due("32: what -1", x.book(2, 1, 0, 1, 0, 0, 1, -1), -1);
        due("32: sheet -1", x.book(2, 1, 0, -1, 0, 0, 1, 0), -1);
        due("32: lane 3", x.book(2, 1, 0, 1, 3, 0, 1, 0), -1);
        due("32: index", x.book(2, 1, 0, 1, 0, 1, 24, 0), -13);
        due("32: index -1", x.book(2, 1, 0, 1, 0, -1, 1, 0), -13);
        due("32: a wild index", x.book(2, 1, 0, 1, 0, HIGH, 24, 0), -13);
        due("32: lane", x.book(2, 1, 0, 1, 1, 99, 1, 0), -12);
        due("32: nothing there", x.book(2, 1, 0, 2, 1, 99, 1, 0), -11);
    }

    private static void mills() {
        ParishPull x = landOf("l3555,h5555,s,a9555");
        items(x, 0, 0, 0, 10, 1, 5, 3, 99, 2, 99, 4, 1, 0, 100, 0, -1, -1, 0);
        due("33: one", x.mills(0, 0, 0, 1), 30);
        due("33: three", x.mills(0, 0, 0, 3), 30 + 30 + 495);
        due("33: a sea adds nothing", x.mills(0, 0, 0, 4), 555);
        due("33: parish 4", x.mills(0, 0, 0, 5), -2);
        due("33: far 100", x.mills(0, 0, 10, 1), -2);
        due("33: far -1", x.mills(0, 0, 12, 1), -2);
        due("33: parish -1", x.mills(0, 0, 14, 1), -2);
        due("33: n 0", x.mills(0, 0, 0, 0), -1);
        due("33: n 9", x.mills(0, 0, 0, 9), -1);
        due("33: sheet 4", x.mills(4, 0, 0, 1), -1);
        due("33: lane -1", x.mills(0, -1, 0, 1), -1);
        due("33: index", x.mills(0, 0, 15, 1), -13);
        due("33: a wild index", x.mills(0, 0, LOW, 1), -13);
        due("33: lane", x.mills(0, 2, 0, 1), -12);
        due("33: nothing there", x.mills(3, 0, 0, 1), -11);
        items(x, 1, 2, 1L << 32, 1, 0, 1L << 32);
        due("33: a long parish", x.mills(1, 2, 0, 1), -2);
        due("33: a long fall", x.mills(1, 2, 2, 1), -2);
    }

    private static void films() {
        ParishPull x = landOf("l3555,h9555,s");
        x.sheet(0, 0, 4);
        due("34: no goods", x.film(0, 0, 4), 0);
        x.good(1, 1, 0);
        x.good(1, 1, 1);
        x.good(99, 1, 2);
        due("34: three", x.film(0, 0, 1), 3);
        due("34: behind the end", x.film(0, 0, 2), -13);
        due("34: index -1", x.film(0, 0, -1), -13);
        due("34: the weights, by a book", x.book(0, 1, 0, 0, 0, 1, 1, 1), 1);
        due("34: the weights, by a book", x.book(1, 1, 0, 0, 0, 2, 1, 1), 1);
        due("34: the weights, by a book", x.book(2, 1, 0, 0, 0, 3, 1, 0), 6561);
        due("34: what was ahead stays", x.book(2, 1, 0, 0, 0, 0, 1, 0), 6561);
        due("34: lane", x.film(0, 1, 0), -12);
        due("34: nothing there", x.film(1, 1, 0), -11);
        due("34: sheet 4", x.film(4, 1, 0), -1);
        due("34: lane 3", x.film(0, 3, 0), -1);
    }

    private static void sheets() {
        ParishPull x = landOf("l");
        due("35: n 24", x.sheet(0, 0, 24), 24);
        due("35: n 0", x.sheet(1, 1, 0), 0);
        due("35: n 25", x.sheet(0, 0, 25), -1);
        due("35: n -1", x.sheet(0, 0, -1), -14);
        due("35: a wild n", x.sheet(0, 0, LOW), -14);
        due("35: BAD ahead of SIZE", x.sheet(4, 0, -1), -1);
        due("35: lane 3", x.sheet(0, 3, 1), -1);
        due("35: lane -1", x.sheet(0, -1, 1), -1);
        due("37: the last", x.item(0, 0, 23, 5), 1);
        due("37: behind it", x.item(0, 0, 24, 5), -13);
        due("37: ahead of the first", x.item(0, 0, -1, 5), -13);
        due("37: of a row of none", x.item(1, 1, 0, 5), -13);
        due("37: another lane", x.item(0, 1, 0, 5), -12);
        due("37: CAST ahead of INDEX", x.item(0, 1, 99, 5), -12);
        due("37: nothing there", x.item(2, 1, 99, 5), -11);
        due("37: sheet -1", x.item(-1, 1, 0, 5), -1);
        due("37: lane 3", x.item(0, 3, 0, 5), -1);
        due("36: how many", x.drop(0), 24);
        due("36: nothing", x.drop(0), -11);
        due("36: a row of none", x.drop(1), 0);
        due("36: sheet 4", x.drop(4), -1);
        due("36: sheet -1", x.drop(-1), -1);
        x.sheet(0, 0, 2);
        x.item(0, 0, 0, 65536 + 5);
        due("37: lowest bits of a short", x.book(0, 1, 0, 0, 0, 0, 1, 0), 729);
        x.item(0, 0, 0, 65535);
        due("37: a short below 0 is a hole", x.book(0, 1, 0, 0, 0, 0, 1, 0), 6561);
        x.sheet(0, 1, 2);
        x.item(0, 1, 0, (1L << 32) + 5);
        due("37: lowest bits of an int", x.book(0, 1, 0, 0, 1, 0, 1, 0), 729);
        x.item(0, 1, 0, 1L << 31);
        due("37: an int below 0 is a hole", x.book(0, 1, 0, 0, 1, 0, 1, 0), 6561);
        x.item(0, 1, 0, 65536 + 5);
        due("37: an int is no short", x.book(0, 1, 0, 0, 1, 0, 1, 0), 0);
        x.sheet(0, 1, 2);
        due("35: a new row is of 0", x.mills(0, 1, 0, 1), 0);
    }

    private static void copies() {
        ParishPull x = landOf("l");
        items(x, 0, 1, 1, 2, 3, 4);
        items(x, 1, 1, 9, 9);
        due("38: two", x.copy(0, 1, 1, 0, 2), 2);
        due("38: from 1 on", x.book(0, 1, 0, 1, 1, 0, 1, 0), 729);
        due("38: 2 and 3", x.book(0, 1, 12, 1, 1, 0, 2, 1), 3);
        due("38: within one row", x.copy(0, 0, 0, 1, 3), 3);
        items(x, 2, 1, 1, 1, 2, 3);
        for (int k = 0; k < 4; k++) {
            due("38: as if all were taken ahead, " + k,
                    x.book(0, 1, 0, 0, 1, k, 1, 0) + 10 * sameItem(x, k), 729 + 10);
        }
        due("38: none", x.copy(0, 4, 1, 2, 0), 0);
        due("38: none behind the end", x.copy(0, 5, 1, 2, 0), -13);
        due("38: behind the end of the one", x.copy(0, 3, 1, 0, 2), -13);
        due("38: behind the end of the other", x.copy(0, 0, 1, 1, 2), -13);
        due("38: i -1", x.copy(0, -1, 1, 0, 1), -13);
        due("38: j -1", x.copy(0, 0, 1, -1, 1), -13);
        due("38: n -1", x.copy(0, 0, 1, 0, -1), -13);
        due("38: wild", x.copy(0, HIGH, 1, HIGH, HIGH), -13);
        due("38: wild", x.copy(0, 1, 1, 1, LOW), -13);
        due("38: to nothing", x.copy(0, 0, 3, 0, 1), -11);
        due("38: from nothing", x.copy(3, 0, 0, 0, 1), -11);
        x.sheet(3, 2, 4);
        due("38: unlike lanes", x.copy(0, 99, 3, 0, 1), -12);
        due("38: sheet 4", x.copy(4, 0, 0, 0, 1), -1);
        due("38: sheet -1", x.copy(0, 0, -1, 0, 1), -1);
        due("38: refused ones change nothing", x.book(0, 1, 0, 1, 1, 0, 1, 0), 729);
    }

    /** 1, if items k of sheets 0 and 2 are alike: then a book of both in one season has a row. */
    private static int sameItem(ParishPull x, int k) {
        x.sheet(3, 1, 2);
        x.copy(0, k, 3, 0, 1);
        x.copy(2, k, 3, 1, 1);
        int rows = x.book(0, 1, 0, 3, 1, 0, 2, 0);
        x.drop(3);
        return rows > 0 ? 1 : 0;
    }

    private static void orderOfRefusals() {
        ParishPull x = landOf("l,h");
        x.sheet(0, 0, 2);
        due("37: BAD ahead of NULL", x.item(1, 3, 0, 1), -1);
        due("37: NULL ahead of INDEX", x.item(1, 0, 99, 1), -11);
        due("33: BAD ahead of NULL", x.mills(1, 0, 0, 0), -1);
        due("33: INDEX ahead of NOT", x.mills(0, 0, 0, 2), -13);
        due("32: BAD ahead of CAST", x.book(0, 0, 0, 0, 1, 0, 1, 0), -1);
        due("31: BAD ahead of NULL", x.beam(0, 1, 1, 0, 0, 9, 0), -1000001);
        due("31: INDEX ahead of NOT", x.beam(0, 1, 0, 0, 0, 2, 0), -1000013);
        due("38: BAD ahead of NULL", x.copy(1, 0, 4, 0, 1), -1);
        due("38: NULL ahead of INDEX", x.copy(1, 99, 0, 0, -1), -11);
    }
}
