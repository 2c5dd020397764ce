/** Promises 14 to 20: keys. */
public final class KeysTest {
    private static final long TOP = 1000000000000L;
    private static final long NO_KEY = LeaningIndex.NO_KEY;
    private static final int NONE = LeaningIndex.NONE, BAD = LeaningIndex.BAD, FULL = LeaningIndex.FULL;
    private static final Due due = new Due();

    public static void main(String[] args) {
        find();
        insert();
        insertTillMade();
        insertWhenFull();
        lateKeysOfOthersStay();
        lateKeysComeAndGo();
        drop();
        dropAll();
        at();
        below();
        above();
        between();
        due.end("KeysTest");
    }

    private static void find() {
        LeaningIndex x = IndexTest.sample();
        due.is("14 no index", x.find(0), NONE);
        due.is("14 no index, bad", x.find(TOP + 1), NONE);
        x.build(1);
        due.is("14 bad", x.find(TOP + 1), BAD);
        due.is("14 bad", x.find(-TOP - 1), BAD);
        due.is("14 bad", x.find(Long.MIN_VALUE), BAD);
        for (long k = 0; k < 5; k++) {
            due.is("14 find " + k, x.find(k), 1);
        }
        for (long k = 95; k < 120; k++) {
            due.is("14 find " + k, x.find(k), k >= 100 && k <= 115 && (k - 100) % 3 == 0 ? 1 : 0);
        }
        due.is("14 below all", x.find(-TOP), 0);
        due.is("14 above all", x.find(TOP), 0);
        due.is("14 the last", x.find(1000002), 1);
        x.insert(-9);
        due.is("14 a late one below all", x.find(-9), 1);
        x.insert(104);
        x.insert(105);
        due.is("14 late", x.find(104), 1);
        due.is("14 late", x.find(105), 1);
        due.is("14 not late", x.find(107), 0);
        x.drop(106);
        due.is("14 dropped", x.find(106), 0);
        x.drop(104);
        due.is("14 late no more", x.find(104), 0);
        due.is("14 late still", x.find(105), 1);
    }

    private static void insert() {
        LeaningIndex x = IndexTest.sample();
        due.is("15 no index", x.insert(1), NONE);
        due.is("15 no index, bad", x.insert(TOP + 1), NONE);
        x.build(1);
        due.is("15 bad", x.insert(TOP + 1), BAD);
        due.is("15 bad", x.insert(-TOP - 1), BAD);
        due.is("15 it is there", x.insert(103), 0);
        due.is("15 late", x.insert(104), 1);
        due.is("15 it is there, late", x.insert(104), 0);
        due.is("15 its piece", x.piece(-1, 1, 3), 1);
        due.is("15 late, ahead", x.insert(101), 1);
        due.is("15 rising", x.key(1, 0, true), 101);
        due.is("15 rising", x.key(1, 1, true), 104);
        due.is("15 between pieces it is the lower one's", x.insert(999), 1);
        due.is("15 between pieces it is the lower one's", x.key(1, 2, true), 999);
        due.is("15 below all", x.insert(-TOP), 1);
        due.is("15 below all it is the first one's", x.key(0, 0, true), -TOP);
        due.is("15 above all", x.insert(TOP), 1);
        due.is("15 above all it is the last one's", x.key(2, 0, true), TOP);
        due.is("15 keys", x.count(2), 20);
        x.drop(100);
        due.is("15 dropped", x.piece(-1, 1, 2), 1);
        due.is("15 comes back", x.insert(100), 1);
        due.is("15 no more", x.piece(-1, 1, 2), 0);
        due.is("15 not late", x.piece(-1, 1, 3), 3);
        due.is("15 it is there", x.insert(100), 0);
        due.is("15 nothing was made", x.count(3), 3);
        due.is("15 nothing was made", x.count(4), 0);
    }

    private static void insertTillMade() {
        LeaningIndex x = IndexTest.sample();
        x.build(1);
        x.drop(100);
        x.drop(115);
        for (int i = 0; i < 15; i++) {
            due.is("15 late " + i, x.insert(200 + i), 1);
        }
        due.is("15 fifteen are kept", x.piece(-1, 1, 3), 15);
        due.is("15 not made anew", x.count(4), 0);
        due.is("15 there, no room needed", x.insert(200), 0);
        x.margin(0);
        due.is("15 the sixteenth", x.insert(215), 1);
        due.is("15 made anew", x.count(4), 1);
        // 103 .. 112 by 3; 200 .. 215 by 1.
        due.is("15 pieces", x.pieces(-1), 4);
        due.is("15 made so far", x.count(3), 5);
        due.is("15 keys", x.piece(-1, 1, 1), 4);
        due.is("15 its margin is E of then", x.piece(-1, 1, 4), 0);
        due.is("15 keys", x.piece(-1, 2, 1), 16);
        due.is("15 none late", x.piece(-1, 1, 3), 0);
        due.is("15 the dropped ones are gone", x.key(1, 0, false), 103);
        due.is("15 the others stay", x.piece(-1, 0, 4), 1);
        due.is("15 layers are made anew", x.piece(0, 0, 4), 0);
        due.is("15 keys", x.count(2), 29);
        due.is("15 a dropped one that went comes late", x.insert(100), 1);
        due.is("15 to the piece ahead", x.key(0, 0, true), 100);
        due.is("15 find it", x.find(100), 1);
        for (int i = 0; i < 16; i++) {
            due.is("15 below all " + i, x.insert(-1 - i), 1);
        }
        due.is("15 made anew", x.count(4), 2);
        due.is("15 the first key now", x.key(0, 0, false), -16 + 1);
    }

    private static void insertWhenFull() {
        LeaningIndex x = new LeaningIndex();
        x.fill(0, 2, 300);
        x.build(1);
        due.is("15 it is there", x.insert(598), 0);
        due.is("15 full", x.insert(1), FULL);
        due.is("15 bad ahead of full", x.insert(TOP + 1), BAD);
        due.is("15 drop", x.drop(4), 1);
        due.is("15 room", x.insert(1), 1);
        due.is("15 full for a dropped one", x.insert(4), FULL);
        due.is("15 it is there, late", x.insert(1), 0);
        due.is("15 keys", x.count(2), 300);
        due.is("15 nothing changed", x.find(4), 0);
        due.is("15 drop late", x.drop(1), 1);
        due.is("15 room for the dropped one", x.insert(4), 1);
        due.is("15 find", x.find(4), 1);
    }

    /** Twenty pieces of two keys, 100 apart, and each with ten late keys. */
    private static LeaningIndex withLateKeys() {
        LeaningIndex x = new LeaningIndex();
        x.margin(0);
        for (int i = 0; i < 20; i++) {
            x.load(100L * i);
            x.load(100L * i + 50 - i);
        }
        due.is("15 twenty pieces", x.build(1), 20);
        for (int i = 0; i < 200; i++) {
            due.is("15 late", x.insert(100L * (i / 10) + 51 + i % 10), 1);
        }
        return x;
    }

    private static void lateKeysOfOthersStay() {
        LeaningIndex x = withLateKeys();
        x.margin(40);
        // Each merge makes one piece of the first two, till two are left.
        for (int left = 19; left > 1; left--) {
            due.is("13 merge", x.merge(0), 1);
            due.is("13 pieces left", x.pieces(-1), left);
            for (int p = 1; p < left; p++) {
                due.is("13 late keys of " + p, x.piece(-1, p, 3), 10);
                due.is("13 first late key of " + p, x.key(p, 0, true), 100L * (20 - left + p) + 51);
                due.is("13 last late key of " + p, x.key(p, 9, true), 100L * (20 - left + p) + 60);
            }
        }
        due.is("13 keys", x.count(2), 240);
    }

    private static void lateKeysComeAndGo() {
        LeaningIndex x = withLateKeys();
        for (int i = 0; i < 125; i++) {
            due.is("16 a late one goes", x.drop(100L * (i % 20) + 55), 1);
            due.is("15 and comes", x.insert(100L * (i % 20) + 55), 1);
        }
        due.is("15 late keys", x.piece(-1, 3, 3), 10);
        due.is("15 keys", x.count(2), 240);
    }

    private static void drop() {
        LeaningIndex x = IndexTest.sample();
        due.is("16 no index", x.drop(1), NONE);
        due.is("16 no index, bad", x.drop(TOP + 1), NONE);
        x.build(1);
        due.is("16 bad", x.drop(TOP + 1), BAD);
        due.is("16 bad", x.drop(-TOP - 1), BAD);
        due.is("16 not there", x.drop(5), 0);
        due.is("16 drop", x.drop(1000), 1);
        due.is("16 drop it again", x.drop(1000), 0);
        due.is("16 it is marked", x.piece(-1, 2, 2), 1);
        due.is("16 it stays", x.key(2, 0, false), 1000);
        due.is("16 keys", x.count(2), 14);
        x.insert(1500);
        x.insert(1400);
        x.insert(1600);
        x.insert(7);
        due.is("16 drop a late one", x.drop(1500), 1);
        due.is("16 it is late no more", x.piece(-1, 2, 3), 2);
        due.is("16 the others stay", x.key(2, 0, true), 1400);
        due.is("16 the others stay", x.key(2, 1, true), 1600);
        due.is("16 another piece's stay", x.key(0, 0, true), 7);
        due.is("16 drop another piece's", x.drop(7), 1);
        due.is("16 the others stay", x.key(2, 0, true), 1400);
        due.is("16 not marked for it", x.piece(-1, 2, 2), 1);
        due.is("16 drop it again", x.drop(1500), 0);
        due.is("16 nothing is made", x.count(3), 3);
    }

    private static void dropAll() {
        LeaningIndex x = new LeaningIndex();
        x.fill(1, 1, 3);
        x.build(1);
        for (int k = 1; k <= 3; k++) {
            due.is("16 drop", x.drop(k), 1);
        }
        due.is("16 the index stays", x.pieces(-1), 1);
        due.is("16 without keys", x.count(2), 0);
        due.is("16 at", x.at(0), NO_KEY);
        due.is("16 below", x.below(9), 0);
        due.is("16 above", x.above(0), NO_KEY);
        due.is("16 between", x.between(0, 9), 0);
        due.is("16 insert", x.insert(2), 1);
        due.is("16 at", x.at(0), 2);
        due.is("16 clear", x.clear(), 1);
    }

    private static void at() {
        LeaningIndex x = IndexTest.sample();
        due.is("17 no index", x.at(0), NO_KEY);
        x.build(1);
        x.insert(-5);
        x.insert(2000000);
        x.insert(101);
        x.drop(0);
        long[] keys = {-5, 1, 2, 3, 4, 100, 101, 103, 106, 109, 112, 115, 1000,
            1000000, 1000001, 1000002, 2000000};
        for (int i = 0; i < keys.length; i++) {
            due.is("17 at " + i, x.at(i), keys[i]);
        }
        due.is("17 behind the last", x.at(keys.length), NO_KEY);
        due.is("17 ahead of the first", x.at(-1), NO_KEY);
        due.is("17 far out", x.at(Integer.MAX_VALUE), NO_KEY);
        due.is("17 far out", x.at(Integer.MIN_VALUE), NO_KEY);
    }

    private static void below() {
        LeaningIndex x = IndexTest.sample();
        due.is("18 no index", x.below(1), NONE);
        due.is("18 no index, bad", x.below(TOP + 1), NONE);
        x.build(1);
        due.is("18 bad", x.below(TOP + 1), BAD);
        due.is("18 bad", x.below(-TOP - 1), BAD);
        due.is("18 below all", x.below(0), 0);
        due.is("18 not itself", x.below(4), 4);
        due.is("18 behind it", x.below(5), 5);
        x.insert(-3);
        x.drop(2);
        x.insert(102);
        due.is("18 late and dropped", x.below(4), 4);
        due.is("18 late, not itself", x.below(102), 6);
        due.is("18 late", x.below(103), 7);
        due.is("18 all", x.below(TOP), 16);
        due.is("18 none", x.below(-TOP), 0);
    }

    private static void above() {
        LeaningIndex x = IndexTest.sample();
        due.is("19 no index", x.above(1), NO_KEY);
        x.build(1);
        due.is("19 the next", x.above(0), 1);
        due.is("19 from between", x.above(50), 100);
        due.is("19 any k", x.above(Long.MIN_VALUE), 0);
        due.is("19 any k", x.above(Long.MAX_VALUE), NO_KEY);
        due.is("19 any k", x.above(-TOP - 1), 0);
        due.is("19 behind the last", x.above(1000002), NO_KEY);
        due.is("19 the last", x.above(1000001), 1000002);
        x.drop(1);
        x.insert(50);
        x.insert(-6);
        due.is("19 not a dropped one", x.above(0), 2);
        due.is("19 a late one", x.above(4), 50);
        due.is("19 a late one", x.above(-7), -6);
        due.is("19 behind a late one", x.above(50), 100);
    }

    private static void between() {
        LeaningIndex x = IndexTest.sample();
        due.is("20 no index", x.between(0, 1), NONE);
        due.is("20 no index, bad", x.between(0, TOP + 1), NONE);
        x.build(1);
        due.is("20 bad a", x.between(-TOP - 1, 1), BAD);
        due.is("20 bad b", x.between(1, TOP + 1), BAD);
        due.is("20 bad and not above", x.between(5, -TOP - 1), BAD);
        due.is("20 from a on, below b", x.between(1, 4), 3);
        due.is("20 a is b", x.between(1, 1), 0);
        due.is("20 b is below a", x.between(4, 1), 0);
        due.is("20 all", x.between(-TOP, TOP), 15);
        x.drop(2);
        x.insert(50);
        due.is("20 dropped", x.between(1, 4), 2);
        due.is("20 late", x.between(4, 51), 2);
        due.is("20 late, not itself", x.between(4, 50), 1);
        due.is("20 late, from itself on", x.between(50, 100), 1);
        x.insert(TOP);
        due.is("20 not the top", x.between(1000002, TOP), 1);
    }
}
