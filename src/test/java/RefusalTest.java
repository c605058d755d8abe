import java.lang.reflect.InvocationTargetException;
import java.lang.reflect.Method;
import java.util.ArrayList;
import java.util.Arrays;
import java.util.HashMap;
import java.util.List;
import java.util.Map;

/**
 * Every number that a call takes at the edges of what the document tells and beyond them; every
 * refusal, which one of several is told, and that what is refused changes nothing.
 */
public final class RefusalTest {
    private static final int LOW = Integer.MIN_VALUE;
    private static final int HIGH = Integer.MAX_VALUE;
    private static final int BAD = -1, NOT = -2, FULL = -3, NONE = -4, NULL = -11, CAST = -12, INDEX = -13, SIZE = -14;
    private static final int LOWERED = -1000000;
    private static final int LOW_BAD = LOWERED + BAD;
    private static final Map<String, Method> CALLS = new HashMap<>();

    /** Lands that the refused calls are made on. */
    private enum Land { EMPTY, RICH, CROWDED, LATE }

    private static int wrong = 0;
    private static int asked = 0;

    private RefusalTest() {
    }

    public static void main(String[] args) {
        for (Method method : ParishPull.class.getDeclaredMethods()) {
            CALLS.put(method.getName(), method);
        }
        rangesOfLand();
        rangesOfTold();
        rangesOfWays();
        rangesOfLeagues();
        rangesOfSheets();
        rangesOfItems();
        nothingThere();
        full();
        notAsTold();
        none();
        whatTheMachineFinds();
        sizes();
        orderOnLand();
        orderOnWays();
        orderOnSheets();
        System.out.println(asked + " asked, " + wrong + " wrong");
        System.exit(wrong == 0 ? 0 : 1);
    }

    // ---- the numbers that calls take

    private static void rangesOfLand() {
        range("parish", 0, 0, 3, BAD, 0);
        range("pull", 0, 0, 4, BAD, 0, 0, 5);
        range("pull", 1, 0, 3, BAD, 0, 0, 5);
        range("pull", 2, 1, 9, BAD, 0, 0, 5);
        range("road", 0, 0, 4, BAD, 0, 2, 5);
        range("road", 1, 0, 4, BAD, 2, 0, 5);
        range("road", 2, 0, 9, BAD, 0, 2, 5);
        range("toll", 0, 0, 4, BAD, 0, 5);
        range("toll", 1, 0, 9, BAD, 0, 5);
        range("cart", 0, 0, 999, BAD, 5, 5);
        range("cart", 1, 0, 99, BAD, 5, 5);
        range("good", 0, 1, 99, BAD, 5, 5, 0);
        range("good", 1, 1, 9, BAD, 5, 5, 0);
        range("good", 2, 0, 4, BAD, 5, 5, 0);
        range("hang", 0, 0, 2, BAD, 0, 999);
        range("hang", 1, 0, 999, BAD, 0, 999);
        range("person", 0, 1, 99, BAD, 5, 0);
        range("person", 1, 0, 4, BAD, 5, 0);
        range("of", 0, 0, 4, BAD, 0, 0);
        range("of", 1, 0, 7, BAD, 0, 0);
        range("weighs", 0, 0, 4, BAD, 0, 5);
        range("weighs", 1, 1, 99, BAD, 0, 5);
        range("type", 0, 32, 126, BAD, 'l');
        range("count", 0, 0, 7, BAD, 0);
        range("weeks", 0, 1, 52, BAD, 1);
    }

    private static void rangesOfTold() {
        range("told", 1, 0, 10, BAD, 0, 0);
        int[] mostNumbers = {4, 4, 4, 1, 1, 2, 2, 2, 2, 1, 1};
        for (int what = 0; what <= 10; what++) {
            range("told", 0, 0, mostNumbers[what], BAD, 0, what);
        }
    }

    private static void rangesOfWays() {
        range("way", 0, 0, 1, BAD, 0, 5, 0, 1, -1);
        range("way", 1, 1, 99, BAD, 0, 5, 0, 1, -1);
        range("way", 2, 0, 4, BAD, 0, 5, 0, 1, -1);
        range("way", 3, 0, 4, BAD, 0, 5, 0, 1, -1);
        range("way", 4, -1, 7, BAD, 0, 5, 0, 1, -1);
        range("net", 0, 0, 2, LOW_BAD, 0, 0, 0);
        range("net", 1, 0, 4, LOW_BAD, 0, 0, 0);
        range("net", 2, 0, 1, LOW_BAD, 0, 0, 0);
        range("market", 0, 0, 2, BAD, 0, 0);
        range("market", 1, 0, 1, BAD, 0, 0);
        range("trade", 0, 0, 2, LOW_BAD, 0, 0, 0);
        range("trade", 1, 0, 1, LOW_BAD, 0, 0, 0);
        range("trade", 2, 0, 1, LOW_BAD, 0, 0, 0);
        range("scales", 0, 0, 2, BAD, 0, 0);
        range("scales", 1, 0, 1, BAD, 0, 0);
        range("take", 0, 0, 4, BAD, 0, 0);
        range("take", 1, 0, 1, BAD, 0, 0);
    }

    private static void rangesOfLeagues() {
        range("councils", 0, 0, 4, BAD, 0, 2, 0, 0);
        range("councils", 1, 0, 4, BAD, 2, 0, 0, 0);
        range("councils", 2, 0, 1, BAD, 0, 2, 0, 0);
        range("councils", 3, 0, 1, BAD, 0, 2, 0, 0);
        range("league", 0, 0, 31, LOW_BAD, 3, 0);
        range("league", 1, 0, 1, LOW_BAD, 3, 0);
        range("upper", 0, 0, 4, LOW_BAD, 0, 31, 0);
        range("upper", 1, 1, 31, LOW_BAD, 0, 31, 0);
        range("upper", 2, 0, 1, LOW_BAD, 0, 31, 0);
        range("lower", 0, 0, 4, BAD, 0, 31, 0);
        range("lower", 1, 1, 31, BAD, 0, 31, 0);
        range("lower", 2, 0, 1, BAD, 0, 31, 0);
        range("change", 0, 0, 4, BAD, 0, 5, 0);
        range("change", 1, 1, 9, BAD, 0, 5, 0);
        range("change", 2, 0, 1, BAD, 0, 5, 0);
        range("well", 0, 0, 4, BAD, 0, 5);
        range("well", 1, 1, 999, BAD, 0, 5);
        refused(Land.RICH, BAD, "road", 2, 2, 5);
        refused(Land.RICH, BAD, "councils", 2, 2, 0, 0);
        refused(Land.RICH, BAD, "councils", 2, 2, 0, 1);
        refused(Land.RICH, LOW_BAD, "league", 33, 0);
        refused(Land.RICH, LOW_BAD, "upper", 0, 33, 0);
        refused(Land.RICH, LOW_BAD, "upper", 5, 32, 0);
        refused(Land.RICH, LOW_BAD, "upper", 0, 30, 0);
        refused(Land.RICH, LOW_BAD, "upper", 4, 15, 0);
        refused(Land.RICH, BAD, "lower", 0, 33, 0);
        refused(Land.RICH, BAD, "lower", 5, 32, 0);
        refused(Land.RICH, BAD, "lower", 0, 30, 0);
        refused(Land.RICH, BAD, "lower", 4, 15, 0);
        // a shift by 32 is one by 0: parish 32 must not pass for parish 0
        refused(Land.RICH, LOW_BAD, "upper", 32, 31, 0);
        refused(Land.RICH, BAD, "lower", 32, 31, 0);
        // on the crowded land each set of eight parishes is one, and no greater one
        accepted(Land.CROWDED, LOW_BAD, "league", 255, 0);
        refused(Land.CROWDED, LOW_BAD, "league", 256, 0);
        accepted(Land.CROWDED, LOW_BAD, "upper", 7, 255, 0);
        refused(Land.CROWDED, LOW_BAD, "upper", 7, 511, 0);
        accepted(Land.CROWDED, BAD, "lower", 7, 255, 0);
        refused(Land.CROWDED, BAD, "lower", 7, 511, 0);
    }

    private static void rangesOfSheets() {
        range("beam", 0, 0, 4, LOW_BAD, 0, 1, 0, 0, 0, 1, 0);
        range("beam", 1, 0, 4, LOW_BAD, 0, 1, 0, 0, 0, 1, 0);
        range("beam", 2, 0, 3, LOW_BAD, 0, 1, 0, 0, 0, 1, 0);
        range("beam", 3, 0, 2, LOW_BAD, 0, 1, 0, 0, 0, 1, 0);
        range("beam", 5, 0, 8, LOW_BAD, 0, 1, 0, 0, 0, 1, 0);
        range("beam", 6, 0, 1, LOW_BAD, 0, 1, 0, 0, 0, 1, 0);
        range("book", 0, 0, 4, BAD, 0, 5, 0, 0, 0, 0, 3, 0);
        range("book", 1, 1, 99, BAD, 0, 5, 0, 0, 0, 0, 3, 0);
        range("book", 2, 0, 9975, BAD, 0, 5, 0, 0, 0, 0, 3, 0);
        range("book", 3, 0, 3, BAD, 0, 5, 0, 0, 0, 0, 3, 0);
        range("book", 4, 0, 2, BAD, 0, 5, 0, 0, 0, 0, 3, 0);
        range("book", 6, 1, 24, BAD, 0, 5, 0, 0, 0, 0, 3, 0);
        range("book", 7, 0, 2, BAD, 0, 5, 0, 0, 0, 0, 3, 0);
        range("mills", 0, 0, 3, BAD, 0, 0, 0, 1);
        range("mills", 1, 0, 2, BAD, 0, 0, 0, 1);
        range("mills", 3, 1, 8, BAD, 0, 0, 0, 1);
        range("film", 0, 0, 3, BAD, 0, 0, 0);
        range("film", 1, 0, 2, BAD, 0, 0, 0);
        range("sheet", 0, 0, 3, BAD, 0, 0, 5);
        range("sheet", 1, 0, 2, BAD, 0, 0, 5);
        range("drop", 0, 0, 3, BAD, 0);
        range("item", 0, 0, 3, BAD, 0, 0, 0, 7);
        range("item", 1, 0, 2, BAD, 0, 0, 0, 7);
        range("copy", 0, 0, 3, BAD, 0, 0, 0, 1, 1);
        range("copy", 2, 0, 3, BAD, 0, 0, 0, 1, 1);
    }

    /** Sheet 0 has 24 items, sheet 1 has 6, sheet 2 has none. */
    private static void rangesOfItems() {
        range("beam", 4, 0, 22, LOWERED + INDEX, 0, 1, 0, 0, 0, 1, 0);
        range("beam", 4, 0, 8, LOWERED + INDEX, 0, 1, 0, 0, 0, 8, 0);
        range("beam", 4, 0, 24, LOWERED + INDEX, 0, 1, 0, 0, 0, 0, 0);
        range("beam", 4, 0, 0, LOWERED + INDEX, 0, 1, 2, 2, 0, 0, 1);
        range("beam", 5, 0, 3, LOWERED + INDEX, new int[] {4, 5, 8}, 0, 1, 1, 1, 0, 1, 0);
        range("book", 5, 0, 23, INDEX, 0, 5, 0, 0, 0, 0, 1, 0);
        range("book", 5, 0, 0, INDEX, 0, 5, 0, 0, 0, 0, 24, 0);
        range("book", 5, 0, 5, INDEX, 0, 5, 0, 1, 1, 0, 1, 2);
        range("book", 6, 1, 6, INDEX, new int[] {7, 24}, 0, 5, 0, 1, 1, 0, 1, 0);
        range("mills", 2, 0, 22, INDEX, 0, 0, 0, 1);
        range("mills", 2, 0, 8, INDEX, 0, 0, 0, 8);
        range("mills", 3, 1, 3, INDEX, new int[] {4, 8}, 1, 1, 0, 1);
        range("film", 2, 0, 21, INDEX, 0, 0, 0);
        range("film", 2, 0, 3, INDEX, 1, 1, 0);
        range("item", 2, 0, 23, INDEX, 0, 0, 0, 7);
        range("item", 2, 0, 5, INDEX, 1, 1, 0, 7);
        range("copy", 1, 0, 20, INDEX, 0, 0, 0, 1, 4);
        range("copy", 3, 0, 20, INDEX, 0, 0, 0, 1, 4);
        range("copy", 4, 0, 24, INDEX, 0, 0, 0, 0, 4);
        range("copy", 4, 0, 22, INDEX, 0, 2, 0, 0, 4);
        range("copy", 4, 0, 22, INDEX, 0, 0, 0, 2, 4);
        range("copy", 1, 0, 24, INDEX, 0, 0, 0, 0, 0);
        range("copy", 3, 0, 24, INDEX, 0, 0, 0, 0, 0);
        refused(Land.RICH, INDEX, "book", 0, 5, 0, 2, 2, 0, 1, 0);
        refused(Land.RICH, INDEX, "mills", 2, 2, 0, 1);
        refused(Land.RICH, INDEX, "film", 2, 2, 0);
        refused(Land.RICH, INDEX, "item", 2, 2, 0, 7);
        refused(Land.RICH, INDEX, "copy", 2, 0, 2, 0, 1);
        refused(Land.RICH, INDEX, "copy", 0, HIGH, 0, 0, HIGH);
        refused(Land.RICH, INDEX, "copy", 0, 0, 0, HIGH, HIGH);
        refused(Land.RICH, INDEX, "copy", 0, LOW, 0, 0, LOW);
    }

    // ---- each refusal by itself

    /** A new object has no parish, road, cart, good, nobody, no row, no image. */
    private static void nothingThere() {
        refused(Land.EMPTY, BAD, "pull", 0, 0, 5);
        refused(Land.EMPTY, BAD, "road", 0, 1, 0);
        refused(Land.EMPTY, BAD, "toll", 0, 0);
        refused(Land.EMPTY, BAD, "good", 1, 1, 0);
        refused(Land.EMPTY, BAD, "hang", 0, 0);
        refused(Land.EMPTY, BAD, "person", 1, 0);
        refused(Land.EMPTY, BAD, "of", 0, 0);
        for (int what = 0; what <= 10; what++) {
            refused(Land.EMPTY, BAD, "told", 0, what);
        }
        refused(Land.EMPTY, BAD, "weighs", 0, 1);
        refused(Land.EMPTY, -20, "land");
        refused(Land.EMPTY, BAD, "way", 0, 1, 0, 0, -1);
        refused(Land.EMPTY, LOW_BAD, "net", 0, 0, 0);
        refused(Land.EMPTY, BAD, "market", 0, 0);
        refused(Land.EMPTY, LOW_BAD, "trade", 0, 0, 0);
        refused(Land.EMPTY, BAD, "scales", 0, 0);
        refused(Land.EMPTY, BAD, "take", 0, 0);
        refused(Land.EMPTY, BAD, "councils", 0, 1, 0, 0);
        refused(Land.EMPTY, LOW_BAD, "league", 0, 0);
        refused(Land.EMPTY, LOW_BAD, "upper", 0, 1, 0);
        refused(Land.EMPTY, BAD, "lower", 0, 1, 0);
        refused(Land.EMPTY, BAD, "change", 0, 1, 0);
        refused(Land.EMPTY, BAD, "well", 0, 1);
        refused(Land.EMPTY, NONE, "restore");
        refused(Land.EMPTY, LOW_BAD, "beam", 0, 0, 0, 0, 0, 0, 0);
        refused(Land.EMPTY, BAD, "book", 0, 1, 0, 0, 0, 0, 1, 0);
        for (int sheet = 0; sheet < 4; sheet++) {
            refused(Land.EMPTY, NULL, "mills", sheet, 0, 0, 1);
            refused(Land.EMPTY, NULL, "film", sheet, 0, 0);
            refused(Land.EMPTY, NULL, "drop", sheet);
            refused(Land.EMPTY, NULL, "item", sheet, 0, 0, 0);
            refused(Land.EMPTY, NULL, "copy", sheet, 0, sheet, 0, 0);
        }
    }

    private static void full() {
        refused(Land.CROWDED, FULL, "parish", 0);
        refused(Land.CROWDED, FULL, "road", 6, 7, 0);
        refused(Land.CROWDED, FULL, "cart", 0, 0);
        refused(Land.CROWDED, FULL, "good", 1, 1, 0);
        refused(Land.CROWDED, FULL, "person", 1, 0);
        refused(Land.CROWDED, FULL, "type", 'l');
        accepted(Land.LATE, FULL, "weeks", 15);
        refused(Land.LATE, FULL, "weeks", 16);
        refused(Land.LATE, FULL, "weeks", 52);
    }

    private static void notAsTold() {
        refused(Land.RICH, NOT, "road", 0, 1, 5);
        refused(Land.RICH, NOT, "road", 1, 0, 5);
        refused(Land.RICH, NOT, "road", 4, 1, 0);
        // good 0 weighs 30 and hangs by 60, good 1 weighs 30 and lies
        accepted(Land.RICH, NOT, "hang", 0, 30);
        refused(Land.RICH, NOT, "hang", 0, 29);
        accepted(Land.RICH, NOT, "hang", 1, 30);
        refused(Land.RICH, NOT, "hang", 1, 29);
        refused(Land.RICH, NOT, "hang", 1, 1);
        accepted(Land.RICH, NOT, "hang", 1, 0);
        // items 16 on: 0, 100; 5, 1; 99, 0; 100, 1
        refused(Land.RICH, LOWERED + NOT, "beam", 0, 1, 0, 0, 16, 1, 0);
        refused(Land.RICH, LOWERED + NOT, "beam", 0, 1, 0, 0, 16, 1, 1);
        refused(Land.RICH, LOWERED + NOT, "beam", 0, 1, 0, 0, 20, 1, 0);
        refused(Land.RICH, LOWERED + NOT, "beam", 0, 1, 0, 0, 22, 1, 0);
        refused(Land.RICH, LOWERED + NOT, "beam", 0, 1, 0, 0, 14, 2, 0);
        refused(Land.RICH, NOT, "mills", 0, 0, 16, 1);
        refused(Land.RICH, NOT, "mills", 0, 0, 18, 1);
        refused(Land.RICH, NOT, "mills", 0, 0, 12, 3);
    }

    private static void none() {
        refused(Land.EMPTY, NONE, "restore");
        refused(Land.RICH, NONE, "way", 0, 99, 0, 1, 2);
        refused(Land.RICH, NONE, "way", 0, 99, 0, 1, 7);
        refused(Land.RICH, NONE, "way", 1, 99, 0, 1, -1);
        refused(Land.RICH, NONE, "way", 1, 99, 0, 1, 0);
        refused(Land.RICH, LOWERED + NONE, "net", 2, 0, 1);
        refused(Land.RICH, NONE, "market", 2, 1);
        refused(Land.RICH, NONE, "well", 2, 999);
        refused(Land.RICH, NONE, "book", 0, 99, 0, 0, 0, 0, 2, 1);
        refused(Land.RICH, NONE, "book", 0, 1, 0, 0, 0, 0, 1, 2);
        refused(Land.RICH, LOWERED + NONE, "beam", 2, 0, 1, 1, 0, 1, 1);
    }

    private static void whatTheMachineFinds() {
        refused(Land.RICH, LOWERED + NULL, "beam", 0, 1, 3, 0, 0, 0, 0);
        refused(Land.RICH, NULL, "book", 0, 5, 0, 3, 0, 0, 1, 0);
        refused(Land.RICH, NULL, "mills", 3, 0, 0, 1);
        refused(Land.RICH, NULL, "film", 3, 0, 0);
        refused(Land.RICH, NULL, "drop", 3);
        refused(Land.RICH, NULL, "item", 3, 0, 0, 7);
        refused(Land.RICH, NULL, "copy", 3, 0, 0, 0, 1);
        refused(Land.RICH, NULL, "copy", 0, 0, 3, 0, 1);
        refused(Land.RICH, NULL, "copy", 3, 0, 3, 0, 0);
        for (int lane = 0; lane < 3; lane++) {
            for (int sheet = 0; sheet < 3; sheet++) {
                if (sheet != lane) {
                    refused(Land.RICH, LOWERED + CAST, "beam", 0, 1, sheet, lane, 0, 0, 0);
                    refused(Land.RICH, CAST, "book", 0, 5, 0, sheet, lane, 0, 1, 0);
                    refused(Land.RICH, CAST, "mills", sheet, lane, 0, 1);
                    refused(Land.RICH, CAST, "film", sheet, lane, 0);
                    refused(Land.RICH, CAST, "item", sheet, lane, 0, 7);
                    refused(Land.RICH, CAST, "copy", sheet, 0, lane, 0, 0);
                }
            }
        }
    }

    private static void sizes() {
        refused(Land.RICH, SIZE, "sheet", 0, 0, -1);
        refused(Land.RICH, SIZE, "sheet", 3, 2, -1);
        refused(Land.RICH, SIZE, "sheet", 0, 0, LOW);
        refused(Land.RICH, BAD, "sheet", 0, 0, 25);
        refused(Land.RICH, BAD, "sheet", 0, 0, HIGH);
        accepted(Land.RICH, BAD, "sheet", 0, 0, 24);
        accepted(Land.RICH, SIZE, "sheet", 0, 0, 0);
    }

    // ---- of several refusals the first that a call names

    private static void orderOnLand() {
        refused(Land.CROWDED, BAD, "parish", 4);
        refused(Land.CROWDED, BAD, "road", 6, 7, 10);
        refused(Land.CROWDED, BAD, "road", 6, 6, 0);
        refused(Land.CROWDED, BAD, "road", 0, 1, 10);
        refused(Land.RICH, BAD, "road", 0, 1, -1);
        refused(Land.CROWDED, NOT, "road", 1, 0, 0);
        refused(Land.CROWDED, BAD, "cart", 1000, 0);
        refused(Land.CROWDED, BAD, "cart", 0, 100);
        refused(Land.CROWDED, BAD, "good", 0, 1, 0);
        refused(Land.CROWDED, BAD, "good", 1, 10, 0);
        refused(Land.CROWDED, BAD, "good", 1, 1, 8);
        refused(Land.CROWDED, BAD, "person", 100, 0);
        refused(Land.CROWDED, BAD, "person", 1, 8);
        refused(Land.CROWDED, BAD, "type", 31);
        refused(Land.CROWDED, BAD, "type", 127);
        refused(Land.RICH, BAD, "hang", 1, -1);
        refused(Land.RICH, BAD, "hang", 3, 1);
        refused(Land.LATE, BAD, "weeks", 53);
        refused(Land.LATE, BAD, "weeks", HIGH);
    }

    private static void orderOnWays() {
        refused(Land.RICH, BAD, "way", 1, 99, 0, 1, 8);
        refused(Land.RICH, BAD, "way", 1, 99, 0, 5, 7);
        refused(Land.RICH, LOW_BAD, "net", 2, 5, 1);
        refused(Land.RICH, BAD, "market", 3, 1);
        refused(Land.RICH, LOW_BAD, "trade", 3, 1, 0);
        refused(Land.RICH, LOW_BAD, "trade", 2, 1, 2);
        refused(Land.RICH, BAD, "well", 2, 1000);
        refused(Land.RICH, BAD, "well", 2, 0);
    }

    private static void orderOnSheets() {
        refused(Land.RICH, LOW_BAD, "beam", 0, 5, 3, 0, 0, 1, 0);
        refused(Land.RICH, LOW_BAD, "beam", 0, 1, 0, 1, 0, 9, 0);
        refused(Land.RICH, LOW_BAD, "beam", 0, 1, 0, 0, 25, 1, 2);
        refused(Land.RICH, LOW_BAD, "beam", 5, 1, 0, 0, 16, 1, 0);
        refused(Land.RICH, LOWERED + NULL, "beam", 0, 1, 3, 1, -1, 8, 0);
        refused(Land.RICH, LOWERED + CAST, "beam", 0, 1, 0, 1, -1, 8, 0);
        refused(Land.RICH, LOWERED + CAST, "beam", 0, 1, 0, 1, 16, 1, 0);
        refused(Land.RICH, LOWERED + INDEX, "beam", 0, 1, 0, 0, 16, 5, 0);
        refused(Land.RICH, LOWERED + NOT, "beam", 2, 0, 0, 0, 20, 1, 1);
        refused(Land.RICH, BAD, "book", 0, 5, 9976, 3, 0, 0, 1, 0);
        refused(Land.RICH, BAD, "book", 0, 100, 0, 0, 1, 0, 1, 0);
        refused(Land.RICH, BAD, "book", 0, 5, 0, 0, 0, 24, 1, 3);
        refused(Land.RICH, BAD, "book", 0, 5, 0, 1, 1, 0, 25, 0);
        refused(Land.RICH, NULL, "book", 0, 5, 0, 3, 1, -1, 1, 0);
        refused(Land.RICH, CAST, "book", 0, 5, 0, 0, 1, -1, 1, 0);
        refused(Land.RICH, INDEX, "book", 0, 99, 0, 0, 0, 1, 24, 1);
        refused(Land.RICH, BAD, "mills", 3, 0, 0, 9);
        refused(Land.RICH, BAD, "mills", 3, 3, 0, 1);
        refused(Land.RICH, BAD, "mills", 0, 1, 0, 0);
        refused(Land.RICH, NULL, "mills", 3, 0, -1, 1);
        refused(Land.RICH, CAST, "mills", 0, 1, -1, 1);
        refused(Land.RICH, INDEX, "mills", 0, 0, 16, 5);
        refused(Land.RICH, BAD, "film", 3, 3, 0);
        refused(Land.RICH, NULL, "film", 3, 0, -1);
        refused(Land.RICH, CAST, "film", 0, 1, -1);
        refused(Land.RICH, BAD, "sheet", 4, 0, -1);
        refused(Land.RICH, BAD, "sheet", 0, 3, -1);
        refused(Land.RICH, BAD, "item", 3, 3, 0, 7);
        refused(Land.RICH, NULL, "item", 3, 0, -1, 7);
        refused(Land.RICH, CAST, "item", 0, 1, -1, 7);
        refused(Land.RICH, BAD, "copy", 3, 0, 4, 0, 1);
        refused(Land.RICH, BAD, "copy", -1, 0, 3, 0, 1);
        refused(Land.RICH, NULL, "copy", 3, -1, 0, -1, -1);
        refused(Land.RICH, NULL, "copy", 0, -1, 3, -1, -1);
        refused(Land.RICH, CAST, "copy", 0, -1, 1, -1, -1);
    }

    // ---- how it is asked

    /** Both ends of what a number may be are taken, what lies beyond them is refused. */
    private static void range(String call, int at, int least, int most, int refusal, int... base) {
        range(call, at, least, most, refusal, new int[] {least - 1, most + 1, LOW, HIGH}, base);
    }

    private static void range(String call, int at, int least, int most, int refusal, int[] beyond, int... base) {
        for (int v : new int[] {least, most}) {
            accepted(Land.RICH, refusal, call, with(base, at, v));
        }
        for (int v : beyond) {
            refused(Land.RICH, refusal, call, with(base, at, v));
        }
    }

    private static int[] with(int[] base, int at, int v) {
        int[] changed = base.clone();
        changed[at] = v;
        return changed;
    }

    private static void accepted(Land land, int refusal, String call, int... a) {
        asked++;
        long got = ask(made(land), call, a);
        if (got == refusal) {
            report(land, call, a, "answered " + got);
        }
    }

    private static void refused(Land land, int due, String call, int... a) {
        asked++;
        ParishPull x = made(land);
        long got = ask(x, call, a);
        if (got != due) {
            report(land, call, a, "answered " + got + ", due is " + due);
        }
        if (!seen(x).equals(seen(made(land)))) {
            report(land, call, a, "is refused and changed something");
        }
    }

    private static void report(Land land, String call, int[] a, String text) {
        wrong++;
        System.out.println("on " + land + ": " + call + Arrays.toString(a) + " " + text);
    }

    private static long ask(ParishPull x, String call, int... a) {
        Method method = CALLS.get(call);
        Object[] values = new Object[a.length];
        for (int k = 0; k < a.length; k++) {
            values[k] = method.getParameterTypes()[k] == long.class ? (Object) (long) a[k] : (Object) a[k];
        }
        try {
            return ((Number) method.invoke(x, values)).longValue();
        } catch (InvocationTargetException e) {
            wrong++;
            System.out.println(call + Arrays.toString(a) + " threw " + e.getCause());
            return HIGH;
        } catch (IllegalAccessException e) {
            throw new IllegalStateException(e);
        }
    }

    private static ParishPull made(Land land) {
        ParishPull x = new ParishPull();
        switch (land) {
            case RICH:
                fillRich(x);
                break;
            case CROWDED:
                fillCrowded(x);
                break;
            case LATE:
                for (int k = 0; k < 192; k++) {
                    x.weeks(52);
                }
                break;
            default:
                break;
        }
        return x;
    }

    private static void type(ParishPull x, String text) {
        for (int k = 0; k < text.length(); k++) {
            x.type(text.charAt(k));
        }
    }

    private static void fillRich(ParishPull x) {
        type(x, "l3579,h5555,s,a9179,l;01t3,12t9,03,34t5,14t1");
        x.land();
        x.cart(999, 3);
        x.good(10, 4, 0);
        x.image();
        x.cart(60, 0);
        x.good(5, 2, 1);
        x.good(20, 9, 4);
        x.hang(0, 60);
        x.person(70, 0);
        x.person(1, 1);
        x.sheet(0, 0, 24);
        int[] items = {1, 6, 2, 5, 3, 4, 4, 3, 1, -2, 2, 1, 3, 6, 4, -6, 0, 100, 5, 1, 99, 0, 100, 1};
        for (int k = 0; k < items.length; k++) {
            x.item(0, 0, k, items[k]);
        }
        x.sheet(1, 1, 6);
        int[] stones = {1, 6, 2, 5, 3, 4};
        for (int k = 0; k < stones.length; k++) {
            x.item(1, 1, k, stones[k]);
        }
        x.sheet(2, 2, 0);
        type(x, "a,s");
    }

    private static void fillCrowded(ParishPull x) {
        type(x, "l,h,s,a,l,h,s,a;01t1,02,03,04,05,06,07,12t9,13,14,15,16,17,23,24");
        x.land();
        for (int k = 0; k < 4; k++) {
            x.cart(999, k);
        }
        for (int k = 0; k < 6; k++) {
            x.good(10 + k, 1 + k, k);
            x.person(20 + k, 0);
        }
        type(x, "l" + " ".repeat(118) + "a");
    }

    /** What can be seen of an object by its calls: the tape and the image come last, as looking uses them up. */
    private static List<Long> seen(ParishPull x) {
        List<Long> all = new ArrayList<>();
        seeState(x, all);
        for (int sheet = 0; sheet < 4; sheet++) {
            for (int lane = 0; lane < 3; lane++) {
                for (int i = 0; i < 24; i += 2) {
                    int fall = x.mills(sheet, lane, i, 1);
                    all.add((long) fall);
                    if (fall <= ParishPull.NULL) {
                        break;
                    }
                }
            }
        }
        all.add((long) x.type('x'));
        all.add((long) x.land());
        all.add((long) x.restore());
        for (int what = 0; what <= 7; what++) {
            all.add((long) x.count(what));
        }
        for (int sheet = 0; sheet < 4; sheet++) {
            all.add((long) x.drop(sheet));
        }
        return all;
    }

    private static void seeState(ParishPull x, List<Long> all) {
        int parishes = x.count(0);
        for (int what = 0; what <= 7; what++) {
            all.add((long) x.count(what));
            for (int parish = 0; parish < parishes; parish++) {
                all.add((long) x.of(parish, what));
            }
        }
        int[] kinds = {1, 1, 1, 2, 2, 3, 3, 3, 3, 4, 4};
        for (int what = 0; what <= 10; what++) {
            int most = x.count(kinds[what]);
            for (int number = 0; number < most; number++) {
                all.add((long) x.told(number, what));
            }
        }
    }
}
