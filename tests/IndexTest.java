/** Promises 9 to 13: the index. */
public final class IndexTest {
    private static final int NONE = LeaningIndex.NONE, BAD = LeaningIndex.BAD;
    private static final Due due = new Due();

    public static void main(String[] args) {
        build();
        buildRounded();
        again();
        againOfNothing();
        clear();
        round();
        roundThatWouldMiss();
        merge();
        mergeOfNothing();
        layersAreMadeAnew();
        due.end("IndexTest");
    }

    /** Pieces with E 1: 0 .. 4; 100, 103 .. 115; 1000, 1000000 .. 1000002. */
    static LeaningIndex sample() {
        LeaningIndex x = new LeaningIndex();
        x.margin(1);
        x.fill(0, 1, 5);
        x.fill(100, 3, 6);
        x.load(1000);
        x.fill(1000000, 1, 3);
        return x;
    }

    private static void build() {
        LeaningIndex x = sample();
        due.is("9 build 0", x.build(0), BAD);
        due.is("9 build 3", x.build(3), BAD);
        due.is("9 build -1", x.build(-1), BAD);
        due.is("9 no index yet", x.layers(), NONE);
        due.is("9 build", x.build(1), 3);
        due.is("9 keys", x.count(2), 15);
        due.is("9 keys of 0", x.piece(-1, 0, 1), 5);
        due.is("9 keys of 1", x.piece(-1, 1, 1), 6);
        due.is("9 keys of 2", x.piece(-1, 2, 1), 4);
        due.is("9 kind of 2", x.piece(-1, 2, 0), 1);
        x.drop(3);
        x.insert(50);
        x.margin(0);
        due.is("9 build 2 with 0", x.build(2), BAD);
        due.is("9 nothing is changed", x.count(2), 15);
        due.is("9 nothing is changed", x.find(3), 0);
        due.is("9 build anew", x.build(1), 4);
        due.is("9 as the row", x.find(3), 1);
        due.is("9 as the row", x.find(50), 0);
        due.is("9 made so far", x.count(3), 7);
        x.wipe();
        due.is("9 build of none", x.build(1), BAD);
        due.is("9 the index stays", x.pieces(-1), 4);
        x.load(9);
        due.is("9 build of one", x.build(1), 1);
        due.is("9 flat", x.piece(-1, 0, 0), 0);
        due.is("9 its margin", x.piece(-1, 0, 4), 0);
        due.is("9 no layer", x.layers(), 0);
    }

    private static void buildRounded() {
        LeaningIndex x = sample();
        // As with margin 0: 0 .. 4; 100 .. 115; 1000, 1000000; 1000001, 1000002.
        due.is("9 build 2", x.build(2), 4);
        due.is("9 rounded", x.piece(-1, 1, 0), 2);
        due.is("9 its margin", x.piece(-1, 1, 4), 1);
        due.is("9 its rise", x.line(-1, 1, 0), 1);
        due.is("9 its run", x.line(-1, 1, 1), 3);
        due.is("9 its height", x.line(-1, 1, 2), 0);
        due.is("9 the layer leans", x.piece(0, 0, 0), 1);
        due.is("9 the layer's margin", x.piece(0, 0, 4), 1);
        // First keys 0, 100, 1000, 1000001: UPPER of 100 and 1000001 is 4 / 999901,
        // of 0 and it 5 / 1000001, of 1000 and it 3 / 999001: that is least.
        due.is("9 the layer's line is with E", x.line(0, 0, 0), 3);
        due.is("9 the layer's line is with E", x.line(0, 0, 1), 999001);
        due.is("9 the layer's line is with E", x.line(0, 0, 2), 999001L * (2 - 1) - 3 * 1000);
        x.wipe();
        x.fill(0, 7, 4);
        x.load(1000);
        due.is("9 build 2", x.build(2), 2);
        due.is("9 one key is flat", x.piece(-1, 1, 0), 0);
        due.is("9 its margin", x.piece(-1, 1, 4), 1);
    }

    private static void again() {
        LeaningIndex x = sample();
        due.is("10 no index", x.again(1), NONE);
        due.is("10 no index, bad", x.again(9), NONE);
        x.build(1);
        due.is("10 again 0", x.again(0), BAD);
        due.is("10 again 3", x.again(3), BAD);
        x.drop(2);
        x.insert(50);
        x.insert(-7);
        x.wipe();
        due.is("10 again", x.again(1), 4);
        due.is("10 keys", x.count(2), 16);
        due.is("10 none dropped", x.piece(-1, 0, 2), 0);
        due.is("10 none late", x.piece(-1, 0, 3), 0);
        due.is("10 the first one", x.key(0, 0, false), -7);
        // -7, 0, 1, 3, 4, 50: UPPER of 4 and 50 is 3/46, LOWER of 0 and 4 1/4: 50 begins.
        due.is("10 the second", x.key(1, 0, false), 50);
        // UPPER of 50 and 100 is 3/50, LOWER of 100 and 109 1/9; then UPPER of 1000 and 1000000
        // is 3/999000, LOWER of 109 and 1000 1/891.
        due.is("10 the third", x.key(2, 0, false), 109);
        due.is("10 the fourth", x.key(3, 0, false), 1000000);
        x.margin(0);
        due.is("10 again 2 with 0", x.again(2), BAD);
        x.margin(2);
        due.is("10 again 2", x.again(2), 4);
        due.is("10 rounded", x.piece(-1, 0, 0), 2);
        due.is("10 its margin", x.piece(-1, 0, 4), 2);
        x.margin(40);
        due.is("10 again with 40", x.again(1), 1);
        due.is("10 made so far", x.count(3), 3 + 4 + 4 + 1);
        due.is("10 not by insert", x.count(4), 0);
    }

    private static void againOfNothing() {
        LeaningIndex x = new LeaningIndex();
        x.fill(1, 1, 2);
        x.build(1);
        x.drop(1);
        x.drop(2);
        due.is("10 an index without keys", x.pieces(-1), 1);
        due.is("10 bad ahead", x.again(5), BAD);
        due.is("10 again of none", x.again(1), 0);
        due.is("10 no index", x.layers(), NONE);
        due.is("10 no index", x.pieces(-1), NONE);
        due.is("10 no index", x.insert(1), NONE);
        due.is("10 made so far", x.count(3), 1);
        due.is("10 build", x.build(1), 1);
        due.is("10 made so far", x.count(3), 2);
    }

    private static void clear() {
        LeaningIndex x = sample();
        due.is("11 clear of none", x.clear(), 0);
        x.build(1);
        x.drop(1);
        x.drop(2);
        x.insert(7);
        due.is("11 clear", x.clear(), 14);
        due.is("11 no index", x.layers(), NONE);
        due.is("11 no index", x.find(0), NONE);
        due.is("11 no index", x.above(0), LeaningIndex.NO_KEY);
        due.is("11 no key", x.count(2), 0);
        due.is("11 the row stays", x.count(0), 15);
        due.is("11 clear again", x.clear(), 0);
        due.is("11 build", x.build(1), 3);
        due.is("11 as the row", x.find(1), 1);
    }

    private static void round() {
        LeaningIndex x = sample();
        due.is("12 no index", x.round(0), NONE);
        x.load(2000000);
        x.load(2000001);
        x.build(1);
        due.is("12 no piece", x.round(-1), NONE);
        due.is("12 no piece", x.round(x.pieces(-1)), NONE);
        x.margin(7);
        due.is("12 round", x.round(0), 1);
        due.is("12 rounded", x.piece(-1, 0, 0), 2);
        due.is("12 its margin stays", x.piece(-1, 0, 4), 1);
        due.is("12 its line stays", x.line(-1, 0, 0), 3);
        due.is("12 its line stays", x.line(-1, 0, 1), 2);
        due.is("12 its line stays", x.line(-1, 0, 2), -2);
        due.is("12 a", x.bits(0, 0), Double.doubleToLongBits(1.5));
        due.is("12 b", x.bits(0, 1), Double.doubleToLongBits(-1.0));
        due.is("12 round again", x.round(0), BAD);
        due.is("12 the layers stay", x.piece(0, 0, 4), 1);
        due.is("12 nothing is made", x.count(3), x.pieces(-1));
        LeaningIndex one = new LeaningIndex();
        one.load(4);
        one.build(1);
        due.is("12 round a flat one", one.round(0), BAD);
    }

    /** With margin 0 a line of thirds or tenths as doubles comes to lie below some places. */
    private static void roundThatWouldMiss() {
        int missed = 0;
        for (int step = 1; step <= 60; step++) {
            LeaningIndex x = new LeaningIndex();
            x.margin(0);
            x.fill(0, step, 100);
            x.build(1);
            double a = 1.0 / (double) step;
            int due1 = 1;
            for (int i = 0; i < 100; i++) {
                if ((long) Math.floor(0.0 + a * (double) (i * step)) != i) {
                    due1 = 0;
                }
            }
            due.is("12 round with step " + step, x.round(0), due1);
            due.is("12 kind with step " + step, x.piece(-1, 0, 0), due1 == 1 ? 2 : 1);
            due.is("12 bits with step " + step, x.bits(0, 0), due1 == 1 ? Double.doubleToLongBits(a) : 0);
            due.is("12 miss with step " + step, x.piece(-1, 0, 5), 0);
            missed += 1 - due1;
        }
        due.is("12 some would miss", missed > 0 ? 1 : 0, 1);
    }

    private static void merge() {
        LeaningIndex x = sample();
        due.is("13 no index", x.merge(0), NONE);
        x.build(1);
        due.is("13 no piece", x.merge(-1), NONE);
        due.is("13 no piece behind", x.merge(2), NONE);
        due.is("13 no piece", x.merge(Integer.MAX_VALUE), NONE);
        due.is("13 no piece", x.merge(Integer.MIN_VALUE), NONE);
        x.round(2);
        x.drop(0);
        x.drop(100);
        x.insert(90);
        x.insert(-4);
        // -4, 1, 2, 3, 4 and 90, 103 .. 115: UPPER of 4 and 90 is 3/86, LOWER of 1 and 4 1/3.
        due.is("13 merge", x.merge(0), 2);
        due.is("13 pieces", x.pieces(-1), 3);
        due.is("13 the first one", x.key(0, 0, false), -4);
        due.is("13 keys", x.piece(-1, 0, 1), 5);
        due.is("13 the second", x.key(1, 0, false), 90);
        due.is("13 none late", x.piece(-1, 0, 3) + x.piece(-1, 1, 3), 0);
        due.is("13 none dropped", x.piece(-1, 0, 2) + x.piece(-1, 1, 2), 0);
        due.is("13 the third stays", x.piece(-1, 2, 0), 2);
        due.is("13 made so far", x.count(3), 5);
        due.is("13 keys", x.count(2), 15);
        x.insert(2000);
        x.drop(1000001);
        x.margin(40);
        due.is("13 merge ahead of the third", x.merge(0), 1);
        due.is("13 its margin", x.piece(-1, 0, 4), 40);
        due.is("13 the other keeps its margin", x.piece(-1, 1, 4), 1);
        due.is("13 the other keeps its late key", x.key(1, 0, true), 2000);
        due.is("13 the other keeps its dropped one", x.piece(-1, 1, 2), 1);
        due.is("13 one layer of two keys", x.piece(0, 0, 1), 2);
        due.is("13 made with the E of then", x.piece(0, 0, 4), 40);
        due.is("13 merge to one", x.merge(0), 1);
        due.is("13 no layer", x.layers(), 0);
        due.is("13 merge one", x.merge(0), NONE);
        due.is("13 kind 1", x.piece(-1, 0, 0), 1);
    }

    private static void mergeOfNothing() {
        LeaningIndex x = sample();
        x.build(1);
        for (long k = 0; k < 5; k++) {
            x.drop(k);
        }
        for (long k = 100; k <= 115; k += 3) {
            x.drop(k);
        }
        due.is("13 merge of none", x.merge(0), 0);
        due.is("13 one piece left", x.pieces(-1), 1);
        due.is("13 no layer left", x.layers(), 0);
        due.is("13 its first key", x.key(0, 0, false), 1000);
        due.is("13 below all is its", x.insert(3), 1);
        due.is("13 below all is its", x.key(0, 0, true), 3);
        LeaningIndex y = new LeaningIndex();
        y.margin(0);
        y.fill(0, 1, 3);
        y.load(10);
        y.build(1);
        for (int i = 0; i < 3; i++) {
            y.drop(i);
        }
        y.drop(10);
        due.is("13 two without keys", y.pieces(-1), 2);
        due.is("13 merge of all", y.merge(0), 0);
        due.is("13 no index", y.layers(), NONE);
        due.is("13 no index", y.count(2), 0);
    }

    private static void layersAreMadeAnew() {
        LeaningIndex x = new LeaningIndex();
        x.margin(0);
        for (int i = 0; i < 300; i++) {
            x.load((long) i * i);
        }
        due.is("9 pieces of two", x.build(1), 150);
        // First keys are squares of even numbers: again no three in a line.
        due.is("9 layer 0", x.pieces(0), 75);
        due.is("9 layer 1", x.pieces(1), 38);
        due.is("9 layer 2", x.pieces(2), 19);
        due.is("9 layer 3", x.pieces(3), 10);
        due.is("9 layer 4", x.pieces(4), 5);
        due.is("9 layer 5", x.pieces(5), 3);
        due.is("9 layer 6", x.pieces(6), 2);
        due.is("9 layer 7", x.pieces(7), 1);
        due.is("9 layers", x.layers(), 8);
        x.margin(40);
        due.is("9 not by margin", x.layers(), 8);
        due.is("12 round", x.round(3) >= 0 ? 1 : 0, 1);
        due.is("12 not by round", x.layers(), 8);
        x.drop(0);
        x.insert(2);
        due.is("15 not by a late key", x.layers(), 8);
        due.is("13 merge", x.merge(0), 1);
        due.is("13 by merge", x.layers() < 8 ? 1 : 0, 1);
        due.is("13 the margin of then", x.piece(0, 0, 4), 40);
    }
}
