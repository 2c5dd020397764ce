/** Promises 14 to 20 and 28 to 31 where they end: the least and greatest key, what is full, late, none. */
public final class FindEdgesTest {
    private static final long TOP = 1000000000000L;
    private static final long NO_KEY = LeaningIndex.NO_KEY;
    private static final int NONE = LeaningIndex.NONE, BAD = LeaningIndex.BAD, FULL = LeaningIndex.FULL;
    private static final long[] NO_KEYS = {-TOP - 1, TOP + 1, Long.MIN_VALUE, Long.MIN_VALUE + TOP,
        Long.MAX_VALUE - TOP, Long.MAX_VALUE};
    private static final Due due = new Due();

    public static void main(String[] args) {
        keysThatAreNone();
        theLeastAndTheGreatest();
        theLeastAndTheGreatestComeLate();
        aKeyBelowAll();
        aKeyAboveAll();
        looksWithoutAMargin();
        looksWithTheGreatestMargin();
        thePlaceIsAtMostTheLast();
        aFindThroughManyLayers();
        theLeastKeyComesBack();
        fifteenLateKeys();
        theSixteenth();
        theSixteenthWithoutOthers();
        theSixteenthOfARoundedPiece();
        fullOfKeys();
        fullWithFifteenLateKeys();
        fullOfLateKeys();
        dropsAtTheEdges();
        numbersOfAt();
        belowAndBetween();
        aboveAnyKey();
        noFindYet();
        theWitnessStays();
        checkComparesWitnesses();
        numbersOfCount();
        allCallsOfAnObject();
        due.end("FindEdgesTest");
    }

    private static LeaningIndex built(int e, long first, long step, int n) {
        LeaningIndex x = new LeaningIndex();
        x.margin(e);
        x.fill(first, step, n);
        x.build(1);
        return x;
    }

    private static void tells(LeaningIndex x, String what, int... witness) {
        for (int i = 0; i < witness.length; i++) {
            due.is("29 told(" + i + ") " + what, x.told(i), witness[i]);
        }
        due.is("29 behind the last " + what, x.told(witness.length), BAD);
    }

    private static void keysThatAreNone() {
        LeaningIndex x = built(8, 0, 1, 5);
        x.find(3);
        for (long k : NO_KEYS) {
            due.is("14 find " + k, x.find(k), BAD);
            due.is("15 insert " + k, x.insert(k), BAD);
            due.is("16 drop " + k, x.drop(k), BAD);
            due.is("18 below " + k, x.below(k), BAD);
            due.is("20 between " + k + " and a key", x.between(k, 3), BAD);
            due.is("20 between a key and " + k, x.between(1, k), BAD);
            due.is("20 between " + k + " and itself", x.between(k, k), BAD);
            due.is("25 guess for " + k, x.guess(-1, 0, k), BAD);
            due.is("30 check " + k, x.check(k), BAD);
            due.is("19 but above any k", x.above(k), k < 0 ? 0 : NO_KEY);
        }
        due.is("31 nothing came or went", x.count(2), 5);
        due.is("28 nothing was found", x.looks(), 3);
    }

    private static void theLeastAndTheGreatest() {
        LeaningIndex x = built(0, -TOP, TOP, 3);
        due.is("14 find the least", x.find(-TOP), 1);
        due.is("14 find the greatest", x.find(TOP), 1);
        due.is("14 one behind the least", x.find(-TOP + 1), 0);
        due.is("14 one ahead of the greatest", x.find(TOP - 1), 0);
        due.is("15 the least is there", x.insert(-TOP), 0);
        due.is("15 the greatest is there", x.insert(TOP), 0);
        due.is("18 below the least", x.below(-TOP), 0);
        due.is("18 below the greatest", x.below(TOP), 2);
        due.is("20 from the least on, below the greatest", x.between(-TOP, TOP), 2);
        due.is("20 from behind the least on", x.between(-TOP + 1, TOP), 1);
        due.is("20 from the greatest on", x.between(TOP, TOP), 0);
        due.is("20 from the greatest down", x.between(TOP, -TOP), 0);
        due.is("25 guess for the least", x.guess(-1, 0, -TOP), 0);
        due.is("25 guess for the greatest", x.guess(-1, 0, TOP), 2);
        due.is("30 check the least", x.check(-TOP), 2);
        due.is("30 check the greatest", x.check(TOP), 2);
        due.is("16 drop the least", x.drop(-TOP), 1);
        due.is("16 drop the greatest", x.drop(TOP), 1);
        due.is("16 drop the least again", x.drop(-TOP), 0);
        due.is("17 the only one", x.at(0), 0);
        due.is("17 no more", x.at(1), NO_KEY);
        due.is("15 insert the least", x.insert(-TOP), 1);
        due.is("15 insert the greatest", x.insert(TOP), 1);
        due.is("23 they came back", x.piece(-1, 0, 2), 0);
        due.is("23 not late", x.piece(-1, 0, 3), 0);
        due.is("17 the first", x.at(0), -TOP);
        due.is("17 the last", x.at(2), TOP);
    }

    private static void theLeastAndTheGreatestComeLate() {
        LeaningIndex x = built(8, 0, 1, 1);
        due.is("15 insert the least", x.insert(-TOP), 1);
        due.is("15 insert the greatest", x.insert(TOP), 1);
        due.is("27 late", x.key(0, 0, true), -TOP);
        due.is("27 late", x.key(0, 1, true), TOP);
        due.is("14 find the least", x.find(-TOP), 1);
        due.is("28 once, twice late", x.looks(), 3);
        due.is("14 find the greatest", x.find(TOP), 1);
        due.is("28 once, once late", x.looks(), 2);
        due.is("20 all but the greatest", x.between(-TOP, TOP), 2);
        due.is("10 again", x.again(1), 1);
        due.is("27 the first", x.key(0, 0, false), -TOP);
        due.is("27 the last", x.key(0, 2, false), TOP);
        due.is("14 find the least", x.find(-TOP), 1);
        due.is("14 find the greatest", x.find(TOP), 1);
    }

    /** Pieces 0, 1, 2 and 10, 15, 20: what is below all goes to the first one, with place 0. */
    private static void aKeyBelowAll() {
        LeaningIndex x = built(0, 0, 1, 3);
        x.fill(10, 5, 3);
        x.build(1);
        due.is("14 below all", x.find(-1), 0);
        tells(x, "below all", 0, 0, 0, 0, 0, 0, 0);
        due.is("28 only once more", x.looks(), 1);
        due.is("18 below it none", x.below(-1), 0);
        due.is("19 above it the first", x.above(-1), 0);
        due.is("16 not there", x.drop(-1), 0);
        due.is("15 it comes", x.insert(-1), 1);
        due.is("27 late, to the first piece", x.key(0, 0, true), -1);
        due.is("24 whose first key stays", x.line(-1, 0, 3), 0);
        due.is("14 it is found", x.find(-1), 1);
        tells(x, "below all, late", 0, 0, 0, 0, 0, 0, 1);
        due.is("28 once more, once late", x.looks(), 2);
        due.is("14 the least of all", x.find(-TOP), 0);
        due.is("28 once more, once late", x.looks(), 2);
        due.is("17 it is the first", x.at(0), -1);
        due.is("18 below 0 it is", x.below(0), 1);
        due.is("19 above all below", x.above(-2), -1);
        due.is("20 it is from itself on", x.between(-1, 0), 1);
        due.is("16 it goes", x.drop(-1), 1);
        due.is("23 late no more", x.piece(-1, 0, 3), 0);
        due.is("23 nothing is marked", x.piece(-1, 0, 2), 0);
    }

    private static void aKeyAboveAll() {
        LeaningIndex x = built(0, 0, 1, 3);
        x.fill(10, 5, 3);
        x.build(1);
        due.is("14 above all", x.find(TOP), 0);
        tells(x, "above all", 0, 1, 1, 1, 2, 2, 0);
        due.is("28 twice and once more", x.looks(), 3);
        due.is("18 below it all", x.below(TOP), 6);
        due.is("19 above it none", x.above(TOP), NO_KEY);
        due.is("15 it comes", x.insert(TOP), 1);
        due.is("27 late, to the last piece", x.key(1, 0, true), TOP);
        due.is("24 whose last key stays", x.line(-1, 1, 4), 20);
        due.is("17 it is the last", x.at(6), TOP);
        due.is("18 it is not below itself", x.below(TOP), 6);
    }

    /** Each guess is then the place: one look for it, if above 0, and one more. */
    private static void looksWithoutAMargin() {
        LeaningIndex x = built(0, 0, 10, 5);
        for (int i = 0; i < 5; i++) {
            due.is("14 find", x.find(10 * i), 1);
            due.is("28 looks for " + 10 * i, x.looks(), i == 0 ? 1 : 2);
            tells(x, "of " + 10 * i, 0, i, i, 1);
            due.is("14 find between", x.find(10 * i + 9), 0);
            due.is("28 looks for " + (10 * i + 9), x.looks(), i == 0 ? 1 : 2);
            tells(x, "of " + (10 * i + 9), 0, i, i, 0);
        }
    }

    /** -40 + 21 / 10 k of 0, 10, .. 40: always from the last place down. */
    private static void looksWithTheGreatestMargin() {
        LeaningIndex x = built(40, 0, 10, 5);
        long[] keys = {-TOP, -1, 0, 9, 10, 15, 20, 30, 39, 40, TOP};
        int[] guesses = {0, 0, 0, 0, 0, 0, 2, 4, 4, 4, 4};
        int[] places = {0, 0, 0, 0, 1, 1, 2, 3, 3, 4, 4};
        int[] looks = {5, 5, 5, 5, 5, 5, 4, 3, 3, 2, 2};
        for (int i = 0; i < keys.length; i++) {
            int answer = keys[i] >= 0 && keys[i] <= 40 && keys[i] % 10 == 0 ? 1 : 0;
            due.is("14 find " + keys[i], x.find(keys[i]), answer);
            due.is("28 looks for " + keys[i], x.looks(), looks[i]);
            tells(x, "of " + keys[i], 0, guesses[i], places[i], answer);
        }
    }

    /** -1 + 13 / 11 k / 10 of 0, 10, .. 110: from a place above the guess, or from the last one. */
    private static void thePlaceIsAtMostTheLast() {
        LeaningIndex x = built(1, 0, 10, 12);
        due.is("24 rise", x.line(-1, 0, 0), 13);
        due.is("24 run", x.line(-1, 0, 1), 110);
        // At 50: 4.9; from 5 on.
        due.is("14 find 50", x.find(50), 1);
        tells(x, "of 50", 0, 4, 5, 1);
        due.is("28 looks for 50", x.looks(), 2);
        // At 60: 6.09; from 7 on.
        due.is("14 find 60", x.find(60), 1);
        tells(x, "of 60", 0, 6, 6, 1);
        due.is("28 looks for 60", x.looks(), 3);
        // At 100: 10.8; from 11 on. At 110: 12, held at 11.
        due.is("14 find 100", x.find(100), 1);
        tells(x, "of 100", 0, 10, 10, 1);
        due.is("28 looks for 100", x.looks(), 3);
        due.is("14 find 110", x.find(110), 1);
        tells(x, "of 110", 0, 11, 11, 1);
        due.is("28 looks for 110", x.looks(), 2);
        due.is("14 find 109", x.find(109), 0);
        tells(x, "of 109", 0, 11, 10, 0);
        due.is("28 looks for 109", x.looks(), 3);
    }

    /** 300 squares: 150 pieces below eight layers. */
    private static void aFindThroughManyLayers() {
        LeaningIndex x = new LeaningIndex();
        x.margin(0);
        for (long i = 0; i < 300; i++) {
            x.load(i * i);
        }
        due.is("9 build", x.build(1), 150);
        due.is("21 layers", x.layers(), 8);
        due.is("14 find", x.find(298 * 298), 1);
        tells(x, "through eight layers", 0, 1, 1, 1, 0, 0, 2, 0, 0, 4, 1, 1, 9, 0, 0,
                18, 1, 1, 37, 0, 0, 74, 1, 1, 149, 0, 0, 1);
        due.is("28 looks", x.looks(), 5);
        due.is("30 check it", x.check(298 * 298), 3);
        due.is("30 check the one behind it", x.check(299 * 299), 2);
        due.is("30 check one between them", x.check(298 * 298 + 1), 0);
        due.is("14 find below all", x.find(-5), 0);
        due.is("29 the last of it", x.told(27), 0);
        due.is("29 no more", x.told(28), BAD);
        due.is("28 looks", x.looks(), 1);
    }

    private static void theLeastKeyComesBack() {
        LeaningIndex x = built(0, 0, 1, 3);
        x.fill(10, 5, 3);
        x.build(1);
        long[] firsts = {0, 10};
        for (int p = 0; p < 2; p++) {
            due.is("16 drop the first key", x.drop(firsts[p]), 1);
            due.is("23 it is marked", x.piece(-1, p, 2), 1);
            due.is("14 it is not found", x.find(firsts[p]), 0);
            due.is("15 it comes back", x.insert(firsts[p]), 1);
            due.is("23 it is marked no more", x.piece(-1, p, 2), 0);
            due.is("23 it is not late", x.piece(-1, p, 3), 0);
            due.is("14 it is found", x.find(firsts[p]), 1);
            due.is("15 it is there", x.insert(firsts[p]), 0);
        }
        due.is("16 drop the last key", x.drop(20), 1);
        due.is("15 it comes back", x.insert(20), 1);
        due.is("23 it is not late", x.piece(-1, 1, 3), 0);
        due.is("31 nothing was made", x.count(4), 0);
    }

    /** The only key 0, and 1 to 15 late. */
    private static LeaningIndex withFifteenLate() {
        LeaningIndex x = built(8, 0, 1, 1);
        for (int k = 15; k >= 1; k--) {
            due.is("15 late " + k, x.insert(k), 1);
        }
        return x;
    }

    private static void fifteenLateKeys() {
        LeaningIndex x = withFifteenLate();
        due.is("23 all are late", x.piece(-1, 0, 3), 15);
        due.is("23 one is not", x.piece(-1, 0, 1), 1);
        due.is("31 nothing was made", x.count(4), 0);
        due.is("31 nothing was made", x.count(3), 1);
        for (int i = 0; i < 15; i++) {
            due.is("27 rising", x.key(0, i, true), i + 1);
            due.is("14 find", x.find(i + 1), 1);
            due.is("28 looks", x.looks(), 16 - i);
        }
        due.is("27 no more", x.key(0, 15, true), NO_KEY);
        due.is("14 below all", x.find(-1), 0);
        due.is("28 looks at all", x.looks(), 16);
        due.is("14 above all", x.find(99), 0);
        due.is("28 looks at the last", x.looks(), 2);
        due.is("14 no late one", x.find(0), 1);
        due.is("28 looks at none", x.looks(), 1);
        due.is("16 drop the one that is not", x.drop(0), 1);
        due.is("14 it is not found", x.find(0), 0);
        due.is("28 looks at all", x.looks(), 16);
        due.is("15 it comes back, not late", x.insert(0), 1);
        due.is("15 one that is there", x.insert(15), 0);
        due.is("16 a late one goes", x.drop(15), 1);
        due.is("23 fourteen", x.piece(-1, 0, 3), 14);
        due.is("15 and comes", x.insert(15), 1);
        due.is("23 fifteen", x.piece(-1, 0, 3), 15);
        due.is("31 nothing was made", x.count(4), 0);
    }

    private static void theSixteenth() {
        LeaningIndex x = withFifteenLate();
        due.is("15 the sixteenth, below all", x.insert(-5), 1);
        due.is("31 pieces were made", x.count(4), 1);
        due.is("31 one more", x.count(3), 2);
        due.is("22 one is left", x.pieces(-1), 1);
        due.is("23 of all keys", x.piece(-1, 0, 1), 17);
        due.is("23 none is late", x.piece(-1, 0, 3), 0);
        due.is("24 the first", x.line(-1, 0, 3), -5);
        due.is("24 the last", x.line(-1, 0, 4), 15);
        due.is("31 all are there", x.count(2), 17);
        due.is("15 fifteen more", x.insert(16), 1);
        for (int k = 17; k <= 30; k++) {
            x.insert(k);
        }
        due.is("31 make nothing", x.count(4), 1);
        due.is("15 the sixteenth", x.insert(31), 1);
        due.is("31 makes again", x.count(4), 2);
    }

    private static void theSixteenthWithoutOthers() {
        LeaningIndex x = built(8, 100, 1, 1);
        x.drop(100);
        for (int k = 0; k < 16; k++) {
            due.is("15 late", x.insert(k), 1);
        }
        due.is("31 pieces were made", x.count(4), 1);
        due.is("23 of the late keys alone", x.piece(-1, 0, 1), 16);
        due.is("24 the last", x.line(-1, 0, 4), 15);
        due.is("15 the dropped one is gone: it comes late", x.insert(100), 1);
        due.is("27 late", x.key(0, 0, true), 100);
    }

    private static void theSixteenthOfARoundedPiece() {
        LeaningIndex x = new LeaningIndex();
        x.margin(1);
        x.fill(0, 3, 4);
        x.build(2);
        due.is("23 rounded", x.piece(-1, 0, 0), 2);
        x.margin(2);
        int late = 0;
        for (int k = 1; late < 16; k++) {
            late += x.insert(k);
        }
        due.is("31 pieces were made", x.count(4), 1);
        due.is("23 of kind 1", x.piece(-1, 0, 0), 1);
        due.is("23 with the E of then", x.piece(-1, 0, 4), 2);
        due.is("23 of all keys", x.piece(-1, 0, 1), 20);
        due.is("10 again", x.again(2), 1);
        due.is("9 build", x.build(1), 1);
        due.is("31 only inserts are counted", x.count(4), 1);
    }

    private static void fullOfKeys() {
        LeaningIndex x = built(8, 1, 2, 300);
        due.is("31 as many as may be there", x.count(2), 300);
        due.is("15 one more", x.insert(2), FULL);
        due.is("15 one more below all", x.insert(-TOP), FULL);
        due.is("15 one that is there", x.insert(1), 0);
        due.is("15 no key", x.insert(TOP + 1), BAD);
        due.is("23 none came late", x.piece(-1, 0, 3), 0);
        due.is("16 one goes", x.drop(1), 1);
        due.is("31 299", x.count(2), 299);
        due.is("15 another comes", x.insert(2), 1);
        due.is("31 300", x.count(2), 300);
        due.is("15 no room for the dropped one", x.insert(1), FULL);
        due.is("23 it is dropped still", x.piece(-1, 0, 2), 1);
        due.is("14 it is not found", x.find(1), 0);
        due.is("15 a late one is there", x.insert(2), 0);
        due.is("16 the late one goes", x.drop(2), 1);
        due.is("15 room for the dropped one", x.insert(1), 1);
        due.is("15 none for the late one", x.insert(2), FULL);
        due.is("17 the last", x.at(299), 599);
        due.is("17 no more", x.at(300), NO_KEY);
        due.is("11 clear", x.clear(), 300);
    }

    private static void fullWithFifteenLateKeys() {
        LeaningIndex x = built(8, 0, 2, 285);
        for (int i = 0; i < 15; i++) {
            due.is("15 late", x.insert(2 * i + 1), 1);
        }
        due.is("31 full", x.count(2), 300);
        due.is("15 the sixteenth", x.insert(31), FULL);
        due.is("31 nothing was made", x.count(4), 0);
        due.is("23 fifteen are late", x.piece(-1, 0, 3), 15);
        due.is("16 one goes", x.drop(0), 1);
        due.is("15 the sixteenth", x.insert(31), 1);
        due.is("31 pieces were made", x.count(4), 1);
        due.is("31 full", x.count(2), 300);
        due.is("15 the dropped one is gone", x.insert(0), FULL);
    }

    /** Twenty pieces, all their keys dropped, each with fifteen late ones. */
    private static void fullOfLateKeys() {
        LeaningIndex x = new LeaningIndex();
        x.margin(0);
        for (int i = 0; i < 20; i++) {
            x.fill(100 * i, 50 - i, 2);
        }
        due.is("9 twenty pieces", x.build(1), 20);
        for (int i = 0; i < 20; i++) {
            due.is("16 drop the first", x.drop(100 * i), 1);
            due.is("16 drop the second", x.drop(100 * i + 50 - i), 1);
        }
        due.is("31 none is there", x.count(2), 0);
        for (int i = 0; i < 300; i++) {
            due.is("15 late, number " + i, x.insert(100 * (i / 15) + 70 + i % 15), 1);
        }
        due.is("31 full", x.count(2), 300);
        due.is("31 nothing was made", x.count(4), 0);
        due.is("15 one more", x.insert(99), FULL);
        due.is("15 a dropped one", x.insert(100), FULL);
        due.is("15 a late one is there", x.insert(70), 0);
        due.is("17 the first", x.at(0), 70);
        due.is("17 the last", x.at(299), 1984);
        due.is("18 below all but fifteen", x.below(1970), 285);
        due.is("14 the last is found", x.find(1984), 1);
        due.is("16 the last goes", x.drop(1984), 1);
        due.is("15 another comes", x.insert(1999), 1);
        due.is("10 all of them", x.again(1), x.pieces(-1));
        due.is("31 are there", x.count(2), 300);
        due.is("14 the last is found", x.find(1999), 1);
    }

    private static void dropsAtTheEdges() {
        LeaningIndex x = withFifteenLate();
        due.is("16 the first late one", x.drop(1), 1);
        due.is("16 the last late one", x.drop(15), 1);
        due.is("27 the first is then", x.key(0, 0, true), 2);
        due.is("27 the last is then", x.key(0, 12, true), 14);
        due.is("27 no more", x.key(0, 13, true), NO_KEY);
        due.is("16 again", x.drop(15), 0);
        for (int k = 2; k <= 14; k++) {
            due.is("16 drop " + k, x.drop(k), 1);
        }
        due.is("23 none is late", x.piece(-1, 0, 3), 0);
        due.is("23 none is marked", x.piece(-1, 0, 2), 0);
        due.is("16 the only one", x.drop(0), 1);
        due.is("23 it is marked", x.piece(-1, 0, 2), 1);
        due.is("31 none is there", x.count(2), 0);
        due.is("16 nothing to drop", x.drop(0), 0);
        due.is("31 none is there", x.count(2), 0);
        due.is("14 an index all the same", x.find(0), 0);
    }

    private static void numbersOfAt() {
        LeaningIndex x = built(8, 0, 1, 300);
        int[] none = {-1, 300, 301, 1024, Integer.MIN_VALUE, Integer.MAX_VALUE};
        for (int i : none) {
            due.is("17 at " + i, x.at(i), NO_KEY);
        }
        due.is("17 the first", x.at(0), 0);
        due.is("17 the last", x.at(299), 299);
        x.drop(0);
        x.drop(299);
        due.is("17 the first then", x.at(0), 1);
        due.is("17 the last then", x.at(297), 298);
        due.is("17 no more then", x.at(298), NO_KEY);
        x.clear();
        due.is("17 without an index", x.at(0), NO_KEY);
    }

    private static void belowAndBetween() {
        LeaningIndex x = built(8, 10, 10, 3);
        x.insert(15);
        x.drop(20);
        // 10, 15, 30.
        long[] keys = {9, 10, 11, 15, 16, 20, 30, 31};
        int[] below = {0, 0, 1, 1, 2, 2, 2, 3};
        for (int i = 0; i < keys.length; i++) {
            due.is("18 below " + keys[i], x.below(keys[i]), below[i]);
            for (int j = 0; j < keys.length; j++) {
                int want = j > i ? below[j] - below[i] : 0;
                due.is("20 between " + keys[i] + " and " + keys[j], x.between(keys[i], keys[j]), want);
            }
        }
    }

    private static void aboveAnyKey() {
        LeaningIndex x = built(8, -TOP, TOP, 3);
        due.is("19 above the least long", x.above(Long.MIN_VALUE), -TOP);
        due.is("19 above what is one below the least", x.above(-TOP - 1), -TOP);
        due.is("19 above the least", x.above(-TOP), 0);
        due.is("19 above -1", x.above(-1), 0);
        due.is("19 above 0", x.above(0), TOP);
        due.is("19 above what is one below the greatest", x.above(TOP - 1), TOP);
        due.is("19 above the greatest", x.above(TOP), NO_KEY);
        due.is("19 above what is one above it", x.above(TOP + 1), NO_KEY);
        due.is("19 above the greatest long", x.above(Long.MAX_VALUE), NO_KEY);
        x.clear();
        due.is("19 without an index", x.above(Long.MIN_VALUE), NO_KEY);
    }

    private static void noFindYet() {
        LeaningIndex x = new LeaningIndex();
        x.find(1);
        due.is("30 without an index, ahead of all", x.check(1), NONE);
        due.is("30 without an index, ahead of all", x.check(TOP + 1), NONE);
        x.fill(0, 1, 3);
        x.build(1);
        x.find(TOP + 1);
        x.insert(5);
        x.drop(1);
        x.check(2);
        due.is("28 refused finds, and other calls, are none", x.looks(), 0);
        due.is("29 refused finds, and other calls, are none", x.told(0), BAD);
        due.is("30 refused finds, and other calls, are none", x.check(2), BAD);
        due.is("14 the first find", x.find(2), 1);
        due.is("30 there was one", x.check(2), 3);
        int[] none = {-1, 4, Integer.MIN_VALUE, Integer.MAX_VALUE};
        for (int i : none) {
            due.is("29 told(" + i + ")", x.told(i), BAD);
        }
    }

    private static void theWitnessStays() {
        LeaningIndex x = built(0, 0, 1, 3);
        x.fill(10, 5, 3);
        x.build(1);
        x.find(15);
        int[] witness = {0, 1, 1, 1, 1, 1, 1};
        tells(x, "at first", witness);
        x.drop(15);
        x.insert(16);
        x.find(TOP + 1);
        x.check(0);
        tells(x, "after drop, insert, check", witness);
        x.margin(40);
        x.round(0);
        x.merge(0);
        tells(x, "after merge", witness);
        due.is("30 another way now", x.check(15), 0);
        x.again(1);
        x.wipe();
        x.clear();
        tells(x, "without an index", witness);
        due.is("28 without an index", x.looks(), 3);
        due.is("14 refused", x.find(15), NONE);
        tells(x, "after a refused find", witness);
        due.is("28 after a refused find", x.looks(), 3);
        x.margin(0);
        x.fill(0, 1, 3);
        x.fill(10, 5, 3);
        x.build(1);
        due.is("30 the same way in another index", x.check(15), 3);
    }

    private static void checkComparesWitnesses() {
        LeaningIndex x = built(0, 0, 10, 3);
        x.find(5);
        // Of 0 to 9 the guess and the place are 0: the answer is all that is not the same.
        due.is("30 the same for another key", x.check(9), 1);
        due.is("30 the same below all", x.check(-TOP), 1);
        due.is("30 only the answer is another", x.check(0), 2);
        due.is("30 the guess is another", x.check(10), 2);
        due.is("30 the guess is another, the answer is not", x.check(11), 0);
        x.insert(3);
        due.is("30 its looks are not in it", x.check(5), 1);
        due.is("30 a late one", x.check(3), 2);
        x.find(3);
        due.is("30 the same for one that is not late", x.check(0), 3);
        due.is("30 it is not the latest", x.check(5), 0);
        due.is("30 nor is that", x.check(3), 3);
    }

    private static void numbersOfCount() {
        LeaningIndex x = new LeaningIndex();
        int[] none = {-1, 5, 6, Integer.MIN_VALUE, Integer.MAX_VALUE};
        for (int what : none) {
            due.is("31 count " + what + " without an index", x.count(what), NONE);
        }
        x.fill(0, 1, 300);
        x.build(1);
        for (int what : none) {
            due.is("31 count " + what, x.count(what), NONE);
        }
        x.margin(0);
        x.insert(300);
        x.again(1);
        due.is("13 no merge of one", x.merge(0), NONE);
        due.is("31 no insert made pieces", x.count(4), 0);
        due.is("31 a full row", x.count(0), 300);
        due.is("31 a full index", x.count(2), 300);
    }

    /** 512 calls: from a full index keys go from the front, and as many come behind all others. */
    private static void allCallsOfAnObject() {
        LeaningIndex x = new LeaningIndex();
        x.margin(0);
        x.fill(0, 2, 300);
        x.build(1);
        int made = 0;
        for (int i = 0; i < 253; i++) {
            due.is("16 drop " + 2 * i, x.drop(2 * i), 1);
            due.is("15 insert behind all, number " + i, x.insert(1000 + (long) i * i), 1);
            made++;
        }
        due.is("31 there are 300", x.count(2), 300);
        due.is("17 the last", x.at(299), 1000 + 252L * 252);
        due.is("512 calls", 3 + 2 * made + 3, 512);
        due.is("14 the 512th", x.find(1000), 1);
    }
}
