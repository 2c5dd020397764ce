/** Promises 1 to 8 where they end: keys and numbers that are just taken, and those just refused. */
public final class RowEdgesTest {
    private static final long TOP = 1000000000000L;
    private static final int NONE = LeaningIndex.NONE, BAD = LeaningIndex.BAD, FULL = LeaningIndex.FULL;
    private static final long[] NO_KEYS = {-TOP - 1, TOP + 1, Long.MIN_VALUE, Long.MIN_VALUE + 1,
        Long.MIN_VALUE + TOP, Long.MAX_VALUE - TOP, Long.MAX_VALUE};
    private static final int[] NO_MARGINS = {-1, 41, -41, Integer.MIN_VALUE, Integer.MAX_VALUE};
    private static final Due due = new Due();

    public static void main(String[] args) {
        aNewObject();
        keysOfLoad();
        keysOfFill();
        numbersOfFill();
        fillThatWraps();
        fillOfVeryMany();
        theRowIsFull();
        theRowIsEmpty();
        margins();
        fewOfFewKeys();
        fewOfAFullRow();
        passesAtMostM();
        placesOfPasses();
        spansOfOneKey();
        numbersOfSpan();
        spansWithTheGreatestMargin();
        spansWithoutAMargin();
        due.end("RowEdgesTest");
    }

    private static void aNewObject() {
        LeaningIndex x = new LeaningIndex();
        due.is("1 an empty row", x.count(0), 0);
        due.is("1 E at first", x.count(1), 8);
        due.is("1 no span", x.span(0, 0), NONE);
        due.is("1 nothing to build of", x.build(1), BAD);
        due.is("1 no index to make again", x.again(1), NONE);
        due.is("1 no index to clear", x.clear(), 0);
        due.is("1 nothing to wipe", x.wipe(), 0);
        due.is("1 no key there", x.count(2), 0);
        due.is("1 no piece made", x.count(3), 0);
        due.is("1 no insert that made", x.count(4), 0);
        due.is("1 no piece of the index", x.pieces(-1), NONE);
        due.is("1 no layer", x.layers(), NONE);
        due.is("1 no find", x.looks(), 0);
        due.is("1 no witness", x.told(0), BAD);
    }

    private static void keysOfLoad() {
        for (long k : NO_KEYS) {
            LeaningIndex x = new LeaningIndex();
            due.is("2 load of none, " + k, x.load(k), BAD);
            due.is("2 it did not come, " + k, x.count(0), 0);
        }
        LeaningIndex least = new LeaningIndex();
        due.is("2 the least key", least.load(-TOP), 1);
        due.is("2 not above the last one", least.load(-TOP), BAD);
        due.is("2 one above the last one", least.load(-TOP + 1), 2);
        due.is("2 one below the last one", least.load(-TOP), BAD);
        LeaningIndex greatest = new LeaningIndex();
        due.is("2 the greatest key", greatest.load(TOP), 1);
        due.is("2 none is above it", greatest.load(TOP + 1), BAD);
        due.is("2 not above it", greatest.load(TOP), BAD);
        due.is("2 below it", greatest.load(TOP - 1), BAD);
        due.is("2 they did not come", greatest.count(0), 1);
    }

    private static int filled(long first, long step, int n) {
        return new LeaningIndex().fill(first, step, n);
    }

    private static void keysOfFill() {
        for (long k : NO_KEYS) {
            due.is("3 the first is none, " + k, filled(k, 1, 1), BAD);
            due.is("3 the first of two is none, " + k, filled(k, TOP, 2), BAD);
        }
        due.is("3 the least key", filled(-TOP, 1, 1), 1);
        due.is("3 the greatest key", filled(TOP, 1, 1), 1);
        due.is("3 one behind the greatest", filled(TOP, 1, 2), BAD);
        due.is("3 up to the greatest", filled(TOP - 299, 1, 300), 300);
        due.is("3 one further", filled(TOP - 298, 1, 300), BAD);
        due.is("3 from the least to the greatest", filled(-TOP, 2 * TOP, 2), 2);
        due.is("3 a step too wide", filled(-TOP, 2 * TOP + 1, 2), BAD);
        due.is("3 a first too high", filled(-TOP + 1, 2 * TOP, 2), BAD);
        LeaningIndex x = new LeaningIndex();
        x.load(10);
        due.is("3 the first is the last one", x.fill(10, 5, 2), BAD);
        due.is("3 the first is below the last one", x.fill(9, 5, 2), BAD);
        due.is("3 none of them came", x.count(0), 1);
        due.is("3 the first is one above", x.fill(11, 5, 2), 3);
        due.is("3 the last one is 16 then", x.load(16), BAD);
        due.is("3 17 is above it", x.load(17), 4);
    }

    private static void numbersOfFill() {
        int[] noNumbers = {0, -1, -300, Integer.MIN_VALUE};
        for (int n : noNumbers) {
            due.is("3 n is " + n, filled(0, 1, n), BAD);
        }
        long[] noSteps = {0, -1, -TOP, Long.MIN_VALUE};
        for (long step : noSteps) {
            due.is("3 step is " + step, filled(0, step, 2), BAD);
            due.is("3 step is " + step + ", also for one key", filled(0, step, 1), BAD);
        }
        due.is("3 n is 1", filled(0, 1, 1), 1);
        due.is("3 any step for one key", filled(TOP, Long.MAX_VALUE, 1), 1);
        due.is("3 n is 300", filled(0, 1, 300), 300);
        due.is("3 n is 301", filled(0, 1, 301), FULL);
    }

    /** The last key, taken modulo 2^64, would be one again. */
    private static void fillThatWraps() {
        LeaningIndex x = new LeaningIndex();
        x.load(5);
        due.is("3 4 * 2^62 is no 0", x.fill(6, 1L << 62, 5), BAD);
        due.is("3 2 * (2^63 - 1) is no -2", x.fill(6, Long.MAX_VALUE, 3), BAD);
        due.is("3 6 + (2^63 - 1) is not below 0", x.fill(6, Long.MAX_VALUE, 2), BAD);
        due.is("3 2^30 * 2^34 is no 0", x.fill(6, 1L << 34, 1 + (1 << 30)), BAD);
        due.is("3 256 * 2^56 is no 0", x.fill(6, 1L << 56, 257), BAD);
        due.is("3 none of them came", x.count(0), 1);
        due.is("3 the last one is still 5", x.load(6), 2);
    }

    /** All of these are keys, or just one is none: FULL, or BAD that is told first. */
    private static void fillOfVeryMany() {
        due.is("3 2^30 * 4 is no 0, as an int is", filled(6, 4, 1 + (1 << 30)), FULL);
        due.is("3 as many as there can be asked for", filled(6, 1, Integer.MAX_VALUE), FULL);
        due.is("3 the last one is the greatest", filled(-TOP, 1000, 2000000001), FULL);
        due.is("3 the last one is above it", filled(-TOP + 1, 1000, 2000000001), BAD);
        due.is("3 one key too many", filled(-TOP, 1000, 2000000002), BAD);
    }

    private static void theRowIsFull() {
        LeaningIndex x = new LeaningIndex();
        due.is("3 all but one", x.fill(1, 1, 299), 299);
        due.is("3 two are too many", x.fill(1000, 1, 2), FULL);
        due.is("3 none of them then", x.count(0), 299);
        due.is("2 room for one", x.load(1000), 300);
        due.is("2 full", x.load(1001), FULL);
        due.is("2 full with the greatest", x.load(TOP), FULL);
        due.is("2 not above the last one, and full", x.load(1000), BAD);
        due.is("2 none, and full", x.load(TOP + 1), BAD);
        due.is("3 full", x.fill(1001, 1, 1), FULL);
        due.is("3 not above the last one, and full", x.fill(1000, 1, 1), BAD);
        due.is("3 none, and full", x.fill(TOP, 1, 2), BAD);
        due.is("3 no step, and full", x.fill(1001, 0, 1), BAD);
        due.is("3 no number, and full", x.fill(1001, 1, 0), BAD);
        due.is("2 still as many", x.count(0), 300);
        due.is("4 wipe a full row", x.wipe(), 300);
        due.is("2 room again, from the least on", x.load(-TOP), 1);
    }

    private static void theRowIsEmpty() {
        LeaningIndex x = new LeaningIndex();
        due.is("4 wipe an empty row", x.wipe(), 0);
        x.margin(3);
        x.load(TOP);
        x.build(1);
        due.is("4 wipe one", x.wipe(), 1);
        due.is("4 it is empty", x.count(0), 0);
        due.is("4 E stays", x.count(1), 3);
        due.is("4 the index stays", x.at(0), TOP);
        due.is("4 wipe it again", x.wipe(), 0);
        due.is("6 few of none", x.few(3), 0);
        due.is("8 no span of none", x.span(0, 0), NONE);
        due.is("9 build of none", x.build(1), BAD);
        due.is("9 build of none, of no kind", x.build(7), BAD);
        due.is("9 the index stays", x.count(2), 1);
        due.is("2 any key comes", x.load(-TOP), 1);
    }

    private static void margins() {
        LeaningIndex x = new LeaningIndex();
        int[] margins = {0, 1, 39, 40, 40, 0};
        int was = 8;
        for (int e : margins) {
            for (int no : NO_MARGINS) {
                due.is("5 margin " + no, x.margin(no), BAD);
                due.is("6 few " + no, x.few(no), BAD);
                due.is("5 E stays", x.count(1), was);
            }
            due.is("6 few " + e, x.few(e), 0);
            due.is("6 few() is not margin()", x.count(1), was);
            due.is("5 margin " + e, x.margin(e), was);
            due.is("5 E from now on", x.count(1), e);
            was = e;
        }
    }

    private static void fewOfFewKeys() {
        LeaningIndex x = new LeaningIndex();
        due.is("6 few of no key", x.few(0), 0);
        due.is("6 few of no key", x.few(40), 0);
        x.load(-TOP);
        due.is("6 few of one key", x.few(0), 1);
        due.is("6 few of one key", x.few(40), 1);
        x.load(TOP);
        due.is("6 few of two keys", x.few(0), 1);
        x.wipe();
        x.load(-TOP);
        x.load(0);
        x.load(TOP);
        due.is("6 few of three in a line", x.few(0), 1);
        x.wipe();
        x.load(-TOP);
        x.load(1);
        x.load(TOP);
        due.is("6 few of three in no line", x.few(0), 2);
        due.is("6 with 1 they are", x.few(1), 1);
    }

    private static void fewOfAFullRow() {
        LeaningIndex line = new LeaningIndex();
        line.fill(-TOP, 6000000000L, 300);
        due.is("6 a full row in a line", line.few(0), 1);
        due.is("6 a full row in a line", line.few(40), 1);
        LeaningIndex x = new LeaningIndex();
        x.fill(0, 1, 299);
        x.load(TOP);
        due.is("6 with 0", x.few(0), 2);
        due.is("6 with the greatest margin", x.few(40), 2);
        LeaningIndex y = new LeaningIndex();
        // 81 keys miss by at most 40 what is in their middle; 82 do not.
        y.fill(0, 1, 81);
        y.load(TOP);
        due.is("6 places 0 to 80 and 81", y.few(40), 1);
        due.is("6 not with 39", y.few(39), 2);
    }

    /** LOWER just as steep as UPPER passes; with one key a step further it is steeper. */
    private static void passesAtMostM() {
        int[] margins = {0, 1, 2, 7, 39, 40};
        for (int m : margins) {
            int j = 2 * m + 1;
            LeaningIndex x = new LeaningIndex();
            x.fill(0, 1, j + 1);
            // LOWER of 0 and j is 1 / j, UPPER of j and the next one j / (j * j).
            x.load(j + j * j);
            due.is("7 just passed with " + m, x.passes(0, j, j + 1, m), 1);
            due.is("6 just one with " + m, x.few(m), 1);
            x.wipe();
            x.fill(0, 1, j + 1);
            x.load(j + j * j + 1);
            due.is("7 not passed with " + m, x.passes(0, j, j + 1, m), 0);
            due.is("6 not one with " + m, x.few(m), 2);
            x.wipe();
            x.load(0);
            // UPPER of 0 and the next one is j / (j * j), LOWER of that and the last one 1 / j.
            x.fill(j * j, 1, j + 1);
            due.is("7 the other way, just passed with " + m, x.passes(0, 1, j + 1, m), 1);
            due.is("6 the other way, just one with " + m, x.few(m), 1);
            x.wipe();
            x.load(-1);
            x.fill(j * j, 1, j + 1);
            due.is("7 the other way, not passed with " + m, x.passes(0, 1, j + 1, m), 0);
            due.is("6 the other way, not one with " + m, x.few(m), 2);
        }
    }

    private static void placesOfPasses() {
        LeaningIndex x = new LeaningIndex();
        due.is("7 no key", x.passes(0, 1, 2, 0), BAD);
        x.load(1);
        due.is("7 one key", x.passes(0, 0, 0, 0), BAD);
        x.load(2);
        due.is("7 two keys", x.passes(0, 1, 2, 0), BAD);
        due.is("7 two keys", x.passes(0, 1, 1, 0), BAD);
        x.load(3);
        due.is("7 three keys", x.passes(0, 1, 2, 0), 1);
        due.is("7 i is -1", x.passes(-1, 1, 2, 0), BAD);
        due.is("7 i is j", x.passes(1, 1, 2, 0), BAD);
        due.is("7 i is above j", x.passes(1, 0, 2, 0), BAD);
        due.is("7 j is l", x.passes(0, 2, 2, 0), BAD);
        due.is("7 j is above l", x.passes(0, 2, 1, 0), BAD);
        due.is("7 l is how many", x.passes(0, 1, 3, 0), BAD);
        due.is("7 i is far out", x.passes(Integer.MIN_VALUE, 1, 2, 0), BAD);
        due.is("7 j is far out", x.passes(0, Integer.MAX_VALUE, 2, 0), BAD);
        due.is("7 l is far out", x.passes(0, 1, Integer.MAX_VALUE, 0), BAD);
        for (int m : NO_MARGINS) {
            due.is("7 margin " + m, x.passes(0, 1, 2, m), BAD);
        }
        due.is("7 the greatest margin", x.passes(0, 1, 2, 40), 1);
        x.wipe();
        x.fill(1, 1, 300);
        due.is("7 the last place of a full row", x.passes(0, 1, 299, 0), 1);
        due.is("7 behind it", x.passes(0, 1, 300, 0), BAD);
    }

    private static void spansOfOneKey() {
        LeaningIndex x = new LeaningIndex();
        x.load(TOP);
        due.is("8 a row of one key: it is the first", x.span(0, 0), 0);
        due.is("8 a row of one key: it is all", x.span(0, 1), 1);
        due.is("8 a row of one key: nothing is ahead", x.span(0, 2), NONE);
        due.is("8 a row of one key: nothing is ahead", x.span(0, 3), NONE);
        due.is("8 a row of one key: nothing is behind", x.span(1, 0), NONE);
        x.wipe();
        x.margin(0);
        x.fill(0, 1, 3);
        x.load(4);
        due.is("8 the first one", x.span(0, 1), 3);
        due.is("8 the last one begins", x.span(1, 0), 3);
        due.is("8 the last one has one key", x.span(1, 1), 1);
        due.is("8 i", x.span(1, 2), 0);
        due.is("8 j", x.span(1, 3), 1);
        due.is("8 no third one", x.span(2, 0), NONE);
        due.is("8 no third one", x.span(2, 3), NONE);
    }

    private static void numbersOfSpan() {
        LeaningIndex x = new LeaningIndex();
        x.margin(0);
        x.fill(0, 1, 3);
        x.fill(10, 5, 2);
        int[] noSpans = {-1, 2, 3, 300, Integer.MIN_VALUE, Integer.MAX_VALUE};
        for (int n : noSpans) {
            for (int what = -1; what <= 4; what++) {
                due.is("8 no span " + n + " " + what, x.span(n, what), NONE);
            }
        }
        int[] noWhats = {-1, 4, 5, Integer.MIN_VALUE, Integer.MAX_VALUE};
        for (int what : noWhats) {
            due.is("8 of span 0 no what " + what, x.span(0, what), NONE);
            due.is("8 of span 1 no what " + what, x.span(1, what), NONE);
        }
        due.is("8 of span 0 no i", x.span(0, 2), NONE);
        due.is("8 of span 0 no j", x.span(0, 3), NONE);
        due.is("8 of span 1 its first", x.span(1, 0), 3);
        due.is("8 of span 1 how many", x.span(1, 1), 2);
        due.is("8 of span 1 i", x.span(1, 2), 0);
        due.is("8 of span 1 j", x.span(1, 3), 1);
    }

    private static void spansWithTheGreatestMargin() {
        LeaningIndex x = new LeaningIndex();
        x.margin(40);
        x.fill(0, 1, 299);
        x.load(TOP);
        due.is("8 all but the last", x.span(0, 1), 299);
        due.is("8 the last", x.span(1, 0), 299);
        due.is("8 alone", x.span(1, 1), 1);
        // LOWER of places 0 and 80 is 0, of 0 and 81 it is 1 / 81; UPPER of 81 and 299 is tiny.
        due.is("8 i", x.span(1, 2), 0);
        due.is("8 j", x.span(1, 3), 81);
        due.is("7 they are passed by no line", x.passes(0, 81, 299, 40), 0);
        due.is("7 those ahead of them are", x.passes(0, 80, 299, 40), 1);
        x.margin(39);
        due.is("8 with 39", x.span(1, 3), 79);
    }

    /** Squares: no three of them are in a line, so each two begin a new one. */
    private static void spansWithoutAMargin() {
        LeaningIndex x = new LeaningIndex();
        x.margin(0);
        for (long i = 0; i < 101; i++) {
            x.load(i * i);
        }
        due.is("6 few of squares", x.few(0), 51);
        for (int n = 0; n < 50; n++) {
            due.is("8 the first of " + n, x.span(n, 0), 2 * n);
            due.is("8 how many of " + n, x.span(n, 1), 2);
            due.is("8 i of " + n, x.span(n, 2), n == 0 ? NONE : 2 * n - 2);
            due.is("8 j of " + n, x.span(n, 3), n == 0 ? NONE : 2 * n - 1);
        }
        due.is("8 the last has one key", x.span(50, 1), 1);
        due.is("8 none behind it", x.span(51, 1), NONE);
    }
}
