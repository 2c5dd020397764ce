/** Promises 21 to 27: what is told. */
public final class ToldTest {
    private static final long TOP = 1000000000000L;
    private static final long NO_KEY = LeaningIndex.NO_KEY;
    private static final int NONE = LeaningIndex.NONE, BAD = LeaningIndex.BAD;
    private static final Due due = new Due();

    public static void main(String[] args) {
        layers();
        pieces();
        piece();
        greatestMiss();
        line();
        lineWithMargin();
        guess();
        guessRounded();
        bits();
        key();
        due.end("ToldTest");
    }

    private static LeaningIndex squares(int n) {
        LeaningIndex x = new LeaningIndex();
        x.margin(0);
        for (long i = 0; i < n; i++) {
            x.load(i * i);
        }
        return x;
    }

    private static void layers() {
        LeaningIndex x = squares(10);
        due.is("21 no index", x.layers(), NONE);
        x.build(1);
        // Five pieces of two; their first keys 0, 4, 16, 36, 64: three; 0, 16, 64: two; one.
        due.is("21 layers", x.layers(), 3);
        x.margin(40);
        x.again(1);
        due.is("21 one piece has no layer", x.layers(), 0);
        x.clear();
        due.is("21 cleared", x.layers(), NONE);
    }

    private static void pieces() {
        LeaningIndex x = squares(10);
        due.is("22 no index", x.pieces(-1), NONE);
        due.is("22 no index", x.pieces(0), NONE);
        x.build(1);
        due.is("22 of the index", x.pieces(-1), 5);
        due.is("22 of layer 0", x.pieces(0), 3);
        due.is("22 of layer 1", x.pieces(1), 2);
        due.is("22 of layer 2", x.pieces(2), 1);
        due.is("22 no layer 3", x.pieces(3), NONE);
        due.is("22 no layer -2", x.pieces(-2), NONE);
        due.is("22 far out", x.pieces(Integer.MAX_VALUE), NONE);
        due.is("22 far out", x.pieces(Integer.MIN_VALUE), NONE);
        x.margin(40);
        x.again(1);
        due.is("22 one piece", x.pieces(-1), 1);
        due.is("22 no layer then", x.pieces(0), NONE);
    }

    private static void piece() {
        LeaningIndex x = squares(9);
        due.is("23 no index", x.piece(-1, 0, 0), NONE);
        x.build(1);
        due.is("23 leaning", x.piece(-1, 0, 0), 1);
        due.is("23 two keys", x.piece(-1, 0, 1), 2);
        due.is("23 flat", x.piece(-1, 4, 0), 0);
        due.is("23 one key", x.piece(-1, 4, 1), 1);
        due.is("23 none dropped", x.piece(-1, 4, 2), 0);
        due.is("23 none late", x.piece(-1, 4, 3), 0);
        due.is("23 margin", x.piece(-1, 4, 4), 0);
        due.is("23 miss", x.piece(-1, 4, 5), 0);
        due.is("23 no what 6", x.piece(-1, 4, 6), NONE);
        due.is("23 no what -1", x.piece(-1, 4, -1), NONE);
        due.is("23 no piece 5", x.piece(-1, 5, 0), NONE);
        due.is("23 no piece -1", x.piece(-1, -1, 0), NONE);
        due.is("23 far out", x.piece(-1, Integer.MAX_VALUE, 0), NONE);
        // First keys 0, 4, 16, 36, 64: pieces of 2, 2, 1.
        due.is("23 of a layer, leaning", x.piece(0, 0, 0), 1);
        due.is("23 of a layer, flat", x.piece(0, 2, 0), 0);
        due.is("23 of a layer, keys", x.piece(0, 1, 1), 2);
        due.is("23 of a layer, no piece", x.piece(0, 3, 0), NONE);
        due.is("23 no layer", x.piece(3, 0, 0), NONE);
        due.is("23 no layer", x.piece(-2, 0, 0), NONE);
        x.drop(0);
        x.drop(1);
        x.insert(65);
        x.insert(66);
        x.insert(67);
        due.is("23 dropped", x.piece(-1, 0, 2), 2);
        due.is("23 keys with the dropped", x.piece(-1, 0, 1), 2);
        due.is("23 late", x.piece(-1, 4, 3), 3);
        due.is("23 keys without the late", x.piece(-1, 4, 1), 1);
        due.is("23 of a layer none dropped", x.piece(0, 0, 2), 0);
        due.is("23 of a layer none late", x.piece(0, 2, 3), 0);
    }

    private static void greatestMiss() {
        LeaningIndex x = IndexTest.sample();
        x.build(1);
        // 3/2 k - 1 at 0 .. 4: -1, 1/2, 2, 7/2, 5: guesses 0, 0, 2, 3, 4.
        due.is("23 miss", x.piece(-1, 0, 5), 1);
        // 5/999002 of the way behind 1000, from -1 on: 0; nearly 4, held at 3: places 1, 2, 3.
        due.is("23 miss with the last place", x.piece(-1, 2, 5), 2 - 1);
        x.drop(1);
        due.is("23 miss of a dropped one too", x.piece(-1, 0, 5), 1);
        LeaningIndex y = new LeaningIndex();
        y.margin(3);
        y.fill(0, 1, 2);
        y.fill(10, 1, 10);
        y.build(1);
        // UPPER of 0 and 19 is (11 + 6) / 19, of 0 and 10 (2 + 6) / 10, of 1 and 10 (1 + 6) / 9,
        // 1 and 19 (10 + 6) / 18: least is 7/9: at 1 it is -2. At 19: 12; at 14 (place 6) 73/9.
        due.is("23 rise", y.line(-1, 0, 0), 7);
        due.is("23 run", y.line(-1, 0, 1), 9);
        due.is("23 height", y.line(-1, 0, 2), -25);
        due.is("23 miss of 3", y.piece(-1, 0, 5), 3);
    }

    private static void line() {
        LeaningIndex x = IndexTest.sample();
        due.is("24 no index", x.line(-1, 0, 0), NO_KEY);
        x.load(2000000);
        x.load(3000000);
        x.build(1);
        due.is("24 rise", x.line(-1, 0, 0), 3);
        due.is("24 run", x.line(-1, 0, 1), 2);
        due.is("24 height", x.line(-1, 0, 2), -2);
        due.is("24 first", x.line(-1, 0, 3), 0);
        due.is("24 last", x.line(-1, 0, 4), 4);
        // 100 .. 115: UPPER of the outermost is 7/15.
        due.is("24 rise", x.line(-1, 1, 0), 7);
        due.is("24 run", x.line(-1, 1, 1), 15);
        due.is("24 height", x.line(-1, 1, 2), -15);
        due.is("24 first", x.line(-1, 1, 3), 100);
        due.is("24 last", x.line(-1, 1, 4), 115);
        due.is("24 no what 5", x.line(-1, 0, 5), NO_KEY);
        due.is("24 no what -1", x.line(-1, 0, -1), NO_KEY);
        due.is("24 no piece", x.line(-1, -1, 0), NO_KEY);
        due.is("24 no piece", x.line(-1, x.pieces(-1), 0), NO_KEY);
        due.is("24 no layer", x.line(1, 0, 0), NO_KEY);
        due.is("24 no layer", x.line(-2, 0, 0), NO_KEY);
        x.drop(100);
        x.insert(120);
        due.is("24 first, dropped", x.line(-1, 1, 3), 100);
        due.is("24 last, late not", x.line(-1, 1, 4), 115);
        x.round(1);
        due.is("24 rounded, rise", x.line(-1, 1, 0), 7);
        due.is("24 rounded, run", x.line(-1, 1, 1), 15);
        due.is("24 rounded, height", x.line(-1, 1, 2), -15);
        LeaningIndex y = squares(5);
        y.build(1);
        due.is("24 flat rise", y.line(-1, 2, 0), 0);
        due.is("24 flat run", y.line(-1, 2, 1), 1);
        due.is("24 flat height", y.line(-1, 2, 2), 0);
        due.is("24 flat first", y.line(-1, 2, 3), 16);
        due.is("24 flat last", y.line(-1, 2, 4), 16);
        due.is("24 of a layer, rise", y.line(0, 0, 0), 1);
        due.is("24 of a layer, run", y.line(0, 0, 1), 4);
        due.is("24 of a layer, last", y.line(0, 0, 4), 4);
        due.is("24 of a flat layer, first", y.line(0, 1, 3), 16);
    }

    private static void lineWithMargin() {
        LeaningIndex x = new LeaningIndex();
        x.margin(0);
        x.fill(-TOP, 4, 9);
        x.build(1);
        due.is("24 without a common divisor, rise", x.line(-1, 0, 0), 1);
        due.is("24 without a common divisor, run", x.line(-1, 0, 1), 4);
        due.is("24 without a common divisor, height", x.line(-1, 0, 2), 0);
        x.margin(40);
        x.wipe();
        x.load(-TOP);
        x.load(TOP);
        x.build(1);
        // (1 + 80) / (2 * 10^12)
        due.is("24 widest, rise", x.line(-1, 0, 0), 81);
        due.is("24 widest, run", x.line(-1, 0, 1), 2 * TOP);
        due.is("24 widest, height", x.line(-1, 0, 2), -80 * TOP);
    }

    private static void guess() {
        LeaningIndex x = IndexTest.sample();
        due.is("25 no index", x.guess(-1, 0, 0), NONE);
        due.is("25 no index, bad", x.guess(-1, 0, TOP + 1), NONE);
        x.build(1);
        int[] guesses = {0, 0, 2, 3, 4, 4};
        for (int k = 0; k < guesses.length; k++) {
            due.is("25 guess for " + k, x.guess(-1, 0, k), guesses[k]);
        }
        due.is("25 not below 0", x.guess(-1, 0, -1), 0);
        due.is("25 not below 0", x.guess(-1, 0, -TOP), 0);
        due.is("25 not above the last place", x.guess(-1, 0, TOP), 4);
        due.is("25 of another piece", x.guess(-1, 1, 112), 4);
        due.is("25 bad", x.guess(-1, 0, TOP + 1), BAD);
        due.is("25 bad", x.guess(-1, 0, -TOP - 1), BAD);
        due.is("25 no piece", x.guess(-1, 9, 0), NONE);
        due.is("25 no piece, bad", x.guess(-1, -1, TOP + 1), NONE);
        due.is("25 no layer", x.guess(5, 0, 0), NONE);
        // The layer: keys 0, 100, 1000: 3/900 through (100, 0): at 700 it is 2.
        due.is("25 of a layer", x.guess(0, 0, 699), 1);
        due.is("25 of a layer", x.guess(0, 0, 700), 2);
        LeaningIndex y = squares(3);
        y.build(1);
        due.is("25 flat", y.guess(-1, 1, 500), 0);
        due.is("25 flat", y.guess(-1, 1, -500), 0);
        due.is("25 flat, bad", y.guess(-1, 1, TOP + 1), BAD);
    }

    private static void guessRounded() {
        LeaningIndex x = new LeaningIndex();
        x.margin(1);
        x.fill(0, 3, 100);
        x.build(2);
        double third = 1.0 / 3.0;
        for (int k = -5; k < 305; k++) {
            long down = (long) Math.floor(0.0 + third * (double) k);
            due.is("25 rounded " + k, x.guess(-1, 0, k), Math.max(0, Math.min(99, down)));
        }
        due.is("25 rounded, far above", x.guess(-1, 0, TOP), 99);
        due.is("25 rounded, far below", x.guess(-1, 0, -TOP), 0);
        x.margin(2);
        x.build(2);
        // With margin 1: 101/297, -1 at the first: rounded down, not towards zero, then held at 0.
        due.is("25 rounded, rise", x.line(-1, 0, 0), 101);
        due.is("25 rounded, height", x.line(-1, 0, 2), -297);
        due.is("25 rounded at the first", x.guess(-1, 0, 0), 0);
        due.is("25 rounded ahead of 1", x.guess(-1, 0, 5), 0);
        due.is("25 rounded from 1 on", x.guess(-1, 0, 6), 1);
    }

    private static void bits() {
        LeaningIndex x = IndexTest.sample();
        due.is("26 no index", x.bits(0, 0), 0);
        x.build(1);
        due.is("26 another kind", x.bits(0, 0), 0);
        x.round(1);
        due.is("26 a", x.bits(1, 0), Double.doubleToLongBits(7.0 / 15.0));
        due.is("26 b", x.bits(1, 1), Double.doubleToLongBits(-15.0 / 15.0));
        due.is("26 no what", x.bits(1, 2), 0);
        due.is("26 no what", x.bits(1, -1), 0);
        due.is("26 no piece", x.bits(-1, 0), 0);
        due.is("26 no piece", x.bits(3, 0), 0);
        due.is("26 another's kind", x.bits(0, 0), 0);
        for (long step = 1; step <= 1000000000L; step = step * 3 + 1) {
            LeaningIndex y = new LeaningIndex();
            y.margin(1);
            y.fill(-7, step, 5);
            y.build(2);
            due.is("26 a with step " + step, y.bits(0, 0), Double.doubleToLongBits(1.0 / (double) step));
            due.is("26 b is 0 with step " + step, y.bits(0, 1), 0);
            y.margin(40);
            y.build(2);
            double rise = y.line(-1, 0, 0);
            double run = y.line(-1, 0, 1);
            double height = y.line(-1, 0, 2);
            due.is("26 a with 39, step " + step, y.bits(0, 0), Double.doubleToLongBits(rise / run));
            due.is("26 b with 39, step " + step, y.bits(0, 1), Double.doubleToLongBits(height / run));
        }
    }

    private static void key() {
        LeaningIndex x = IndexTest.sample();
        due.is("27 no index", x.key(0, 0, false), NO_KEY);
        x.build(1);
        due.is("27 key", x.key(1, 5, false), 115);
        due.is("27 behind the last", x.key(1, 6, false), NO_KEY);
        due.is("27 ahead of the first", x.key(1, -1, false), NO_KEY);
        due.is("27 no piece", x.key(3, 0, false), NO_KEY);
        due.is("27 no piece", x.key(-1, 0, false), NO_KEY);
        due.is("27 no late one", x.key(1, 0, true), NO_KEY);
        x.drop(115);
        x.insert(110);
        x.insert(101);
        due.is("27 a dropped one", x.key(1, 5, false), 115);
        due.is("27 late", x.key(1, 0, true), 101);
        due.is("27 late", x.key(1, 1, true), 110);
        due.is("27 behind the last late one", x.key(1, 2, true), NO_KEY);
        due.is("27 ahead of the first late one", x.key(1, -1, true), NO_KEY);
        due.is("27 another's late one", x.key(0, 0, true), NO_KEY);
        due.is("27 far out", x.key(1, Integer.MAX_VALUE, true), NO_KEY);
        due.is("27 far out", x.key(2, Integer.MAX_VALUE, false), NO_KEY);
    }
}
