/** Promises 28 to 31: finds. */
public final class FindsTest {
    private static final long TOP = 1000000000000L;
    private static final int NONE = LeaningIndex.NONE, BAD = LeaningIndex.BAD, FULL = LeaningIndex.FULL;
    private static final Due due = new Due();

    public static void main(String[] args) {
        looks();
        looksAtLateKeys();
        told();
        toldThroughLayers();
        check();
        count();
        due.end("FindsTest");
    }

    private static void looks() {
        LeaningIndex x = IndexTest.sample();
        due.is("28 no find", x.looks(), 0);
        x.find(1);
        due.is("28 a refused find", x.looks(), 0);
        x.build(1);
        // Layer: keys 0, 100, 1000, line 3/900 through (100, 0): of 103 guess 0, p 1: 100 is not
        // above: one. Piece 1: guess (-15 + 7 * 3) / 15 = 0, p 1: 103 is not above; and it is k.
        x.find(103);
        due.is("28 looks of 103", x.looks(), 3);
        // Guess 0, p 1: 100 is above; p is 0. Piece 0: guess 0 (1/2), p 1: not above; it is k.
        x.find(1);
        due.is("28 looks of 1", x.looks(), 3);
        // As above; guess 3 (7/2), p 4: 4 is above; 3 is not; it is k.
        x.find(3);
        due.is("28 looks of 3", x.looks(), 4);
        // p 1: above; guess 0, p 1: above; p is 0: 0 is not k; no late keys.
        x.find(-8);
        due.is("28 looks of -8", x.looks(), 3);
        x.find(TOP + 1);
        due.is("28 a refused find changes nothing", x.looks(), 3);
        x.check(3);
        x.insert(-8);
        x.drop(-8);
        due.is("28 nor other calls", x.looks(), 3);
        x.clear();
        due.is("28 nor clear", x.looks(), 3);
        x.find(3);
        due.is("28 nor find without an index", x.looks(), 3);
        x.wipe();
        x.load(4);
        x.build(1);
        x.find(4);
        due.is("28 one key", x.looks(), 1);
    }

    private static void looksAtLateKeys() {
        LeaningIndex x = new LeaningIndex();
        x.load(10);
        x.build(1);
        x.insert(12);
        x.insert(15);
        x.insert(17);
        x.insert(3);
        int[] keys = {2, 3, 4, 10, 11, 12, 13, 15, 16, 17, 18};
        // KEY 0, then 17, 15, 12, 3 till one is not above.
        int[] looks = {5, 5, 5, 1, 5, 4, 4, 3, 3, 2, 2};
        for (int i = 0; i < keys.length; i++) {
            x.find(keys[i]);
            due.is("28 looks at late keys for " + keys[i], x.looks(), looks[i]);
        }
        x.drop(10);
        due.is("28 a dropped one", x.find(10), 0);
        due.is("28 late keys are looked at for a dropped one", x.looks(), 5);
    }

    private static void told() {
        LeaningIndex x = IndexTest.sample();
        due.is("29 no find", x.told(0), BAD);
        x.build(1);
        due.is("29 no find yet", x.told(0), BAD);
        x.find(103);
        int[] witness = {0, 0, 1, 1, 0, 1, 1};
        tellsAll(x, "of 103", witness);
        x.find(104);
        int[] notFound = {0, 0, 1, 1, 0, 1, 0};
        tellsAll(x, "of 104", notFound);
        x.find(3);
        int[] higher = {0, 0, 0, 0, 3, 3, 1};
        tellsAll(x, "of 3", higher);
        x.find(TOP + 1);
        x.check(103);
        x.insert(104);
        x.drop(3);
        tellsAll(x, "of 3 still", higher);
        x.margin(40);
        x.again(1);
        tellsAll(x, "of 3 after again", higher);
        x.clear();
        tellsAll(x, "of 3 after clear", higher);
        x.build(1);
        // One piece: guess is that of its line, p is found from the last place down.
        x.find(1000002);
        due.is("29 its number", x.told(0), 0);
        due.is("29 its g", x.told(1), x.guess(-1, 0, 1000002));
        due.is("29 its p", x.told(2), 14);
        due.is("29 the answer", x.told(3), 1);
        due.is("29 no more", x.told(4), BAD);
    }

    private static void tellsAll(LeaningIndex x, String what, int[] witness) {
        for (int i = 0; i < witness.length; i++) {
            due.is("29 told(" + i + ") " + what, x.told(i), witness[i]);
        }
        due.is("29 behind the last " + what, x.told(witness.length), BAD);
        due.is("29 ahead of the first " + what, x.told(-1), BAD);
        due.is("29 far out " + what, x.told(Integer.MAX_VALUE), BAD);
        due.is("29 far out " + what, x.told(Integer.MIN_VALUE), BAD);
    }

    private static void toldThroughLayers() {
        LeaningIndex x = new LeaningIndex();
        x.margin(0);
        for (long i = 0; i < 10; i++) {
            x.load(i * i);
        }
        x.build(1);
        // Pieces 0 1, 4 9, 16 25, 36 49, 64 81; above 0 4, 16 36, 64; above 0 16, 64; above 0 64.
        // With margin 0 no key is above: each guess is a place at most as high as k.
        x.find(49);
        int[] witness = {0, 0, 0, 0, 1, 1, 1, 1, 1, 3, 1, 1, 1};
        tellsAll(x, "of 49", witness);
        due.is("28 looks", x.looks(), 4);
        x.find(80);
        int[] other = {0, 1, 1, 1, 0, 0, 2, 0, 0, 4, 0, 0, 0};
        tellsAll(x, "of 80", other);
        due.is("28 looks", x.looks(), 2);
    }

    private static void check() {
        LeaningIndex x = IndexTest.sample();
        due.is("30 no index", x.check(1), NONE);
        x.build(1);
        due.is("30 no find", x.check(1), BAD);
        due.is("30 bad", x.check(TOP + 1), BAD);
        x.find(103);
        due.is("30 the same", x.check(103), 3);
        due.is("30 another answer", x.check(104), 0);
        due.is("30 another way", x.check(109), 2);
        due.is("30 bad", x.check(TOP + 1), BAD);
        due.is("30 bad", x.check(-TOP - 1), BAD);
        // 200 and 300 are both behind the last place of piece 1.
        x.find(200);
        due.is("30 the same, not found", x.check(200), 1);
        due.is("30 the same for another key", x.check(300), 1);
        due.is("30 found", x.check(103), 2);
        due.is("30 found at the same place", x.check(115), 2);
        due.is("30 it changes nothing", x.check(200), 1);
        x.insert(200);
        due.is("30 it would find now", x.check(200), 2);
        due.is("30 its looks are not compared", x.check(300), 1);
        x.margin(40);
        x.again(1);
        due.is("30 a shorter way", x.check(300), 0);
        x.clear();
        due.is("30 cleared", x.check(300), NONE);
        due.is("30 cleared, bad", x.check(TOP + 1), NONE);
    }

    private static void count() {
        LeaningIndex x = IndexTest.sample();
        due.is("31 keys of the row", x.count(0), 15);
        due.is("31 E", x.count(1), 1);
        due.is("31 keys that are there", x.count(2), 0);
        due.is("31 none made", x.count(3), 0);
        due.is("31 no number 5", x.count(5), NONE);
        due.is("31 no number -1", x.count(-1), NONE);
        x.build(1);
        due.is("31 there", x.count(2), 15);
        due.is("31 made, not the layer's", x.count(3), 3);
        x.insert(50);
        x.drop(0);
        x.drop(50);
        due.is("31 there", x.count(2), 14);
        x.merge(0);
        due.is("31 made by merge", x.count(3), 5);
        x.again(2);
        due.is("31 made by again", x.count(3), 9);
        x.round(0);
        due.is("31 not by round", x.count(3), 9);
        x.clear();
        due.is("31 not by clear", x.count(3), 9);
        due.is("31 none there", x.count(2), 0);
        x.margin(40);
        x.build(1);
        for (int i = 0; i < 32; i++) {
            x.insert(2000000 + i);
        }
        due.is("31 made by inserts", x.count(4), 2);
        due.is("31 made by inserts", x.count(3), 12);
        due.is("31 there", x.count(2), 47);
        due.is("31 no number 5", x.count(5), NONE);
        due.is("31 far out", x.count(Integer.MAX_VALUE), NONE);
    }
}
