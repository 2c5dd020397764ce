/** Promises 1 to 8: a new object, and the row. */
public final class RowTest {
    private static final long TOP = 1000000000000L;
    private static final int NONE = LeaningIndex.NONE, BAD = LeaningIndex.BAD, FULL = LeaningIndex.FULL;
    private static final Due due = new Due();

    public static void main(String[] args) {
        aNewObject();
        load();
        fill();
        fillAtTheTop();
        wipe();
        margin();
        few();
        passes();
        span();
        due.end("RowTest");
    }

    private static void aNewObject() {
        LeaningIndex x = new LeaningIndex();
        due.is("1 count(0)", x.count(0), 0);
        due.is("1 count(1)", x.count(1), 8);
        due.is("1 count(2)", x.count(2), 0);
        due.is("1 count(3)", x.count(3), 0);
        due.is("1 count(4)", x.count(4), 0);
        due.is("1 layers", x.layers(), NONE);
        due.is("1 pieces", x.pieces(-1), NONE);
        due.is("1 find", x.find(0), NONE);
        due.is("1 looks", x.looks(), 0);
        due.is("1 told", x.told(0), BAD);
        due.is("1 at", x.at(0), LeaningIndex.NO_KEY);
        due.is("1 few", x.few(0), 0);
        due.is("1 NONE", LeaningIndex.NONE, -1);
        due.is("1 BAD", LeaningIndex.BAD, -2);
        due.is("1 FULL", LeaningIndex.FULL, -3);
        due.is("1 NO_KEY", LeaningIndex.NO_KEY, Long.MIN_VALUE);
    }

    private static void load() {
        LeaningIndex x = new LeaningIndex();
        due.is("2 load below all", x.load(-TOP - 1), BAD);
        due.is("2 load least long", x.load(Long.MIN_VALUE), BAD);
        due.is("2 load greatest long", x.load(Long.MAX_VALUE), BAD);
        due.is("2 load lowest", x.load(-TOP), 1);
        due.is("2 load it again", x.load(-TOP), BAD);
        due.is("2 load 0", x.load(0), 2);
        due.is("2 load below", x.load(-1), BAD);
        due.is("2 load highest", x.load(TOP), 3);
        due.is("2 load above all", x.load(TOP + 1), BAD);
        due.is("2 count", x.count(0), 3);
        LeaningIndex full = new LeaningIndex();
        for (int i = 1; i <= 300; i++) {
            due.is("2 load one by one", full.load(i), i);
        }
        due.is("2 load too many", full.load(301), FULL);
        due.is("2 load bad ahead of full", full.load(300), BAD);
        due.is("2 load none ahead of full", full.load(TOP + 1), BAD);
        due.is("2 count", full.count(0), 300);
    }

    private static void fill() {
        LeaningIndex x = new LeaningIndex();
        due.is("3 fill", x.fill(-5, 5, 3), 3);
        due.is("3 fill at the last one", x.fill(5, 1, 1), BAD);
        due.is("3 fill none", x.fill(6, 1, 0), BAD);
        due.is("3 fill below none", x.fill(6, 1, -1), BAD);
        due.is("3 fill no step", x.fill(6, 0, 2), BAD);
        due.is("3 fill step back", x.fill(6, -1, 1), BAD);
        due.is("3 count", x.count(0), 3);
        due.is("3 fill one more", x.fill(6, 1, 1), 4);
        due.is("3 fill too many", x.fill(7, 1, 297), FULL);
        due.is("3 fill far too many", x.fill(7, 1, Integer.MAX_VALUE), FULL);
        due.is("3 fill bad ahead of full", x.fill(6, 1, 297), BAD);
        due.is("3 fill up", x.fill(7, 1, 296), 300);
        due.is("3 fill full", x.fill(1000, 1, 1), FULL);
        due.is("3 build", x.build(1), 1);
        due.is("3 key 0", x.at(0), -5);
        due.is("3 key 1", x.at(1), 0);
        due.is("3 key 2", x.at(2), 5);
        due.is("3 key 3", x.at(3), 6);
        due.is("3 key 4", x.at(4), 7);
        due.is("3 key 299", x.at(299), 302);
    }

    private static void fillAtTheTop() {
        LeaningIndex x = new LeaningIndex();
        due.is("3 fill from none", x.fill(-TOP - 1, TOP, 2), BAD);
        due.is("3 fill from below longs", x.fill(Long.MIN_VALUE, 1, 1), BAD);
        due.is("3 fill from above longs", x.fill(Long.MAX_VALUE, Long.MAX_VALUE, 3), BAD);
        due.is("3 fill over the top by 1", x.fill(TOP - 2, 1, 4), BAD);
        due.is("3 fill over the top ahead of full", x.fill(0, 1000, Integer.MAX_VALUE), BAD);
        due.is("3 fill widest step", x.fill(0, Long.MAX_VALUE, 2), BAD);
        due.is("3 fill a step that wraps", x.fill(0, Long.MAX_VALUE / 2 + 1, 3), BAD);
        due.is("3 count", x.count(0), 0);
        due.is("3 fill one, whatever step", x.fill(-TOP, Long.MAX_VALUE, 1), 1);
        due.is("3 fill to the top", x.fill(TOP - 2, 1, 3), 4);
        due.is("3 fill behind the top", x.fill(TOP + 1, 1, 1), BAD);
        due.is("3 wipe", x.wipe(), 4);
        due.is("3 fill all there is", x.fill(-TOP, 2 * TOP, 2), 2);
    }

    private static void wipe() {
        LeaningIndex x = new LeaningIndex();
        due.is("4 wipe nothing", x.wipe(), 0);
        x.fill(10, 1, 7);
        x.build(1);
        due.is("4 wipe", x.wipe(), 7);
        due.is("4 count", x.count(0), 0);
        due.is("4 the index stays", x.find(16), 1);
        due.is("4 a lower key", x.load(-3), 1);
        due.is("4 few", x.few(0), 1);
        due.is("4 again", x.wipe(), 1);
    }

    private static void margin() {
        LeaningIndex x = new LeaningIndex();
        due.is("5 margin -1", x.margin(-1), BAD);
        due.is("5 margin 41", x.margin(41), BAD);
        due.is("5 margin 40", x.margin(40), 8);
        due.is("5 margin 0", x.margin(0), 40);
        due.is("5 margin 1", x.margin(1), 0);
        due.is("5 count", x.count(1), 1);
        x.fill(0, 1, 3);
        x.load(1000);
        x.build(1);
        due.is("5 a piece's margin", x.piece(-1, 0, 4), 1);
        due.is("5 margin 7", x.margin(7), 1);
        due.is("5 a made piece keeps its margin", x.piece(-1, 0, 4), 1);
        due.is("5 span is of the margin now", x.span(0, 1), 4);
    }

    private static void few() {
        LeaningIndex x = new LeaningIndex();
        due.is("6 few of none", x.few(0), 0);
        due.is("6 few -1", x.few(-1), BAD);
        due.is("6 few 41", x.few(41), BAD);
        x.load(5);
        due.is("6 few of one", x.few(0), 1);
        x.load(7);
        due.is("6 few of two", x.few(0), 1);
        x.load(9);
        due.is("6 few of three in a line", x.few(0), 1);
        x.load(10);
        due.is("6 few of four", x.few(0), 2);
        // (5, 0) .. (10, 3): LOWER of 9, 10 is (1 - 2) / 1, UPPER of 5, 9 is (2 + 2) / 4.
        due.is("6 few with 1", x.few(1), 1);
        x.wipe();
        x.fill(0, 1, 299);
        x.load(TOP);
        due.is("6 few with 40", x.few(40), 2);
        due.is("6 few does not change E", x.count(1), 8);
        x.wipe();
        // Squares: no three are in a line, so all spans have two keys.
        for (int i = 0; i < 300; i++) {
            x.load((long) i * i);
        }
        due.is("6 few of squares", x.few(0), 150);
    }

    private static void passes() {
        LeaningIndex x = new LeaningIndex();
        due.is("7 passes nothing", x.passes(0, 1, 2, 0), BAD);
        x.fill(0, 1, 10);
        x.load(1009);
        due.is("7 places as there", x.passes(0, 1, 9, 0), 1);
        due.is("7 three in a line", x.passes(2, 5, 7, 0), 1);
        due.is("7 not in a line", x.passes(8, 9, 10, 0), 0);
        // (0, 0), (9, 9), (1009, 10): LOWER of the first two (9 - 2 M) / 9,
        // UPPER of the last two (1 + 2 M) / 1000: M 4 1/9 against 9/1000, M 5 is enough.
        due.is("7 margin 4", x.passes(0, 9, 10, 4), 0);
        due.is("7 margin 5", x.passes(0, 9, 10, 5), 1);
        due.is("7 margin 40", x.passes(0, 9, 10, 40), 1);
        due.is("7 margin -1", x.passes(0, 1, 2, -1), BAD);
        due.is("7 margin 41", x.passes(0, 1, 2, 41), BAD);
        due.is("7 i below 0", x.passes(-1, 1, 2, 0), BAD);
        due.is("7 i is j", x.passes(1, 1, 2, 0), BAD);
        due.is("7 j is l", x.passes(0, 2, 2, 0), BAD);
        due.is("7 j above l", x.passes(0, 3, 2, 0), BAD);
        due.is("7 l is how many", x.passes(0, 1, 11, 0), BAD);
        due.is("7 l far out", x.passes(0, 1, Integer.MAX_VALUE, 0), BAD);
        x.wipe();
        x.load(0);
        x.load(2);
        x.load(5);
        // Equal bounds pass: LOWER of (0, 0), (2, 1) with M 0 is 1/2, UPPER of (2, 1), (5, 2) 1/3.
        due.is("7 a near miss", x.passes(0, 1, 2, 0), 0);
        x.wipe();
        x.load(-3);
        x.load(0);
        x.load(4);
        x.load(5);
        // (-3, 0), (4, 2), (5, 3) with M 0: 2/7 against 1.
        due.is("7 steeper behind", x.passes(0, 2, 3, 0), 0);
        due.is("7 steeper behind with 1", x.passes(0, 2, 3, 1), 1);
        x.wipe();
        x.fill(0, 1, 3);
        x.load(6);
        // (0, 0), (2, 2), (6, 3) with M 1 : LOWER of the first two 0, UPPER of the last two 3/4;
        // (0, 0), (1, 1), (6, 3) with M 0 : 1 against 2/5.
        due.is("7 with 1", x.passes(0, 2, 3, 1), 1);
        due.is("7 with 0", x.passes(0, 1, 3, 0), 0);
        x.wipe();
        x.fill(0, 1, 5);
        x.load(1004);
        x.load(1005);
        x.load(1006);
        x.load(1007);
        // (0, 0), (4, 4), (1004, 5) with M 2: LOWER 0, UPPERs 5/1000, 9/1004, LOWER 1/1004: passes.
        due.is("7 flat on the way", x.passes(0, 4, 5, 2), 1);
        // With M 1: LOWER 2/4 against UPPER 3/1000.
        due.is("7 flat on the way with 1", x.passes(0, 4, 5, 1), 0);
    }

    private static void span() {
        LeaningIndex x = new LeaningIndex();
        due.is("8 span of none", x.span(0, 0), NONE);
        x.margin(1);
        x.fill(0, 1, 5);
        due.is("8 the only span", x.span(0, 1), 5);
        due.is("8 no second span", x.span(1, 0), NONE);
        x.fill(100, 3, 6);
        x.load(1000);
        x.fill(1000000, 1, 3);
        due.is("8 span 0 first", x.span(0, 0), 0);
        due.is("8 span 0 keys", x.span(0, 1), 5);
        due.is("8 span 0 bars none", x.span(0, 2), NONE);
        due.is("8 span 0 bars none", x.span(0, 3), NONE);
        due.is("8 span 1 first", x.span(1, 0), 5);
        due.is("8 span 1 keys", x.span(1, 1), 6);
        // 0, j, 100: LOWER of the first two (j - 2) / j against UPPER of the last two
        // (5 - j + 2) / (100 - j): 0 against 5/98 for j 2, 1/3 against 4/97 for j 3.
        due.is("8 span 1 i", x.span(1, 2), 0);
        due.is("8 span 1 j", x.span(1, 3), 3);
        due.is("8 span 2 first", x.span(2, 0), 11);
        due.is("8 span 2 keys", x.span(2, 1), 4);
        // Places of the row: 100 is 5, 1000 is 11; j is 109, place 8: LOWER 1/9, UPPER 5/891;
        // 106, place 7: LOWER 0, UPPER 6/894.
        due.is("8 span 2 i", x.span(2, 2), 5);
        due.is("8 span 2 j", x.span(2, 3), 8);
        due.is("8 no span 3", x.span(3, 0), NONE);
        due.is("8 no span -1", x.span(-1, 0), NONE);
        due.is("8 no span far out", x.span(Integer.MAX_VALUE, 2), NONE);
        due.is("8 no what 4", x.span(1, 4), NONE);
        due.is("8 no what -1", x.span(1, -1), NONE);
        due.is("8 they bar", x.passes(5, 8, 11, 1), 0);
        x.margin(40);
        due.is("8 with the margin now", x.span(0, 1), 15);
        due.is("8 one span then", x.span(1, 2), NONE);
        laterPair();
    }

    private static void laterPair() {
        LeaningIndex x = new LeaningIndex();
        x.margin(1);
        x.load(0);
        x.load(10);
        x.load(11);
        x.load(12);
        x.load(13);
        x.load(14);
        // (0, 0), (10, 1) .. (14, 5): LOWER of 10, 14 is 2/4, UPPER of 0, 10 is 3/10 : 14 is out;
        // so is 13: LOWER of 10, 13 is 1/3; and 12 is in: LOWER 0.
        due.is("8 keys of the first", x.span(0, 1), 4);
        due.is("8 i of 13", x.span(1, 2), 0);
        // No line passes 0, 10, 13.
        due.is("8 j of 13", x.span(1, 3), 1);
        x.wipe();
        x.margin(0);
        x.fill(-9, 3, 4);
        x.load(1);
        due.is("8 span with 0", x.span(1, 0), 4);
        due.is("8 i with 0", x.span(1, 2), 0);
        due.is("8 j with 0", x.span(1, 3), 1);
        due.is("8 one key", x.span(1, 1), 1);
        aPairBehindTheFirst();
    }

    private static void aPairBehindTheFirst() {
        LeaningIndex x = new LeaningIndex();
        x.margin(2);
        // The keys 100 .. 105 are in a line with slope 1; with 0 ahead of them they pass.
        x.load(90);
        x.fill(100, 1, 4);
        x.load(1000);
        // (90, 0), (100, 1) .. (103, 4), (1000, 5): LOWER of 90 and j is (j - 4) / ..: not above 0,
        // LOWER of 100 and 103 is (3 - 4) / 3: all pass.
        due.is("8 all in one", x.few(2), 1);
        x.margin(1);
        // LOWER of 100 and 103 is (3 - 2) / 3, UPPER of 90 and 100 (1 + 2) / 10.
        due.is("8 keys then", x.span(0, 1), 4);
        due.is("8 i then", x.span(1, 2), 0);
        due.is("8 j then", x.span(1, 3), 1);
        x.wipe();
        x.margin(2);
        x.load(-1000000);
        x.fill(0, 1, 7);
        x.load(1000000);
        // LOWER of -1000000 and j is at most 3 / 1000006; with 1000000 it is UPPER of j and that
        // one, (8 - j + 4) / (1000000 - ..), at least 5 / 999994: never barred by the first key.
        // Of 0 (place 1) and j: LOWER (j - 5) / (j - 1): above 0 from place 6 (key 5) on: 1/5.
        due.is("8 keys of the first", x.span(0, 1), 6);
        due.is("8 i is the first", x.span(1, 2), 0);
        due.is("8 j", x.span(1, 3), 1);
        x.margin(3);
        // Now -1000000 .. 6 pass: LOWER of 0 and 6 is 0. So does 1000000.
        due.is("8 few with 3", x.few(3), 1);
        barredByASecondKey();
    }

    private static void barredByASecondKey() {
        LeaningIndex x = new LeaningIndex();
        x.margin(1);
        // (0, 0), (1, 1), .. rise by 1 a key; then 10, 20, 30 lean less.
        x.load(0);
        x.load(1);
        x.load(2);
        x.load(10);
        x.load(11);
        x.load(12);
        x.load(13);
        // Found by hand: of 0 LOWER with 1, 2 is at most 0; with 10 (3 - 2) / 10; UPPER of 10 and
        // 11, 12, 13 is 3, 2, 5/3: no bar. UPPER of 0 and 10 is 1/2, of 2 and 10 3/8; LOWER of 10
        // and 13 is 1/3, of 2 and 13 2/11: all pass.
        due.is("8 all pass", x.few(1), 1);
        x.load(14);
        // LOWER of 10 and 14 is 2/4, above UPPER of 2 and 10: 3/8, and of 1 and 10: 4/9, but not
        // above UPPER of 0 and 10: 5/10. So 0 is in no bar with 10; with 11 (UPPER 6/11, LOWER of
        // 11 and 14 1/3), with 1 (UPPER 3, LOWER of 1 and 14 4/13) and so on neither.
        due.is("8 not all pass", x.few(1), 2);
        due.is("8 first of the second", x.span(1, 0), 7);
        due.is("8 i is the second key", x.span(1, 2), 1);
        due.is("8 j is its fourth", x.span(1, 3), 3);
    }
}
