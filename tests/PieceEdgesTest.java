/** Promises 9 to 13 and 21 to 27 where they end: pieces of one key, of none that is there, one piece. */
public final class PieceEdgesTest {
    private static final long TOP = 1000000000000L;
    private static final long NO_KEY = LeaningIndex.NO_KEY;
    private static final int NONE = LeaningIndex.NONE, BAD = LeaningIndex.BAD;
    private static final int[] FAR_OUT = {-2, Integer.MIN_VALUE, Integer.MAX_VALUE, 1000};
    private static final Due due = new Due();

    public static void main(String[] args) {
        aPieceOfOneKey();
        aPieceOfOneKeyBehindOthers();
        anIndexOfOnePiece();
        anIndexOfTwoPieces();
        marginsOfLines();
        guessesThatAreHeld();
        roundedGuessesThatAreHeld();
        guessesAtWholeNumbers();
        theWidestLine();
        theSteepestLine();
        linesThatTouchTwice();
        aLineThatBeginsAbove();
        roundedByLess();
        roundedByLessWithAMargin();
        roundGoesByThePiecesMargin();
        theMarginIsThatOfThen();
        layersAreOfTheWholeMargin();
        missesOfDroppedKeys();
        layersAreMadeAnew();
        layersWhenPiecesOnlyGo();
        allKeysOfAPieceDropped();
        allKeysDropped();
        mergedToOneKey();
        mergedToNone();
        placesOfMerge();
        piecesThatStayAreAsTheyWere();
        piecesThatComeHaveNothingOfOthers();
        noneIsDroppedOfPiecesThatCome();
        numbersThatAreNone();
        keysThatAreNone();
        due.end("PieceEdgesTest");
    }

    private static LeaningIndex withMargin(int e) {
        LeaningIndex x = new LeaningIndex();
        x.margin(e);
        return x;
    }

    /** 0, 1, 2 and 10, 15, 20 and, with margin 0, two pieces of them. */
    private static LeaningIndex twoPieces() {
        LeaningIndex x = withMargin(0);
        x.fill(0, 1, 3);
        x.fill(10, 5, 3);
        due.is("9 two pieces", x.build(1), 2);
        return x;
    }

    /** Pieces of two squares each: no three are in a line. */
    private static LeaningIndex squares(int n) {
        LeaningIndex x = withMargin(0);
        for (long i = 0; i < n; i++) {
            x.load(i * i);
        }
        due.is("9 pieces of two", x.build(1), (n + 1) / 2);
        return x;
    }

    private static void aPieceOfOneKey() {
        long[] keys = {-TOP, 0, TOP};
        for (long k : keys) {
            for (int kind = 1; kind <= 2; kind++) {
                LeaningIndex x = new LeaningIndex();
                x.load(k);
                due.is("9 one piece", x.build(kind), 1);
                due.is("23 it is flat", x.piece(-1, 0, 0), 0);
                due.is("23 one key", x.piece(-1, 0, 1), 1);
                due.is("23 its margin", x.piece(-1, 0, 4), 8);
                due.is("23 its miss", x.piece(-1, 0, 5), 0);
                due.is("24 its rise", x.line(-1, 0, 0), 0);
                due.is("24 its run", x.line(-1, 0, 1), 1);
                due.is("24 its height", x.line(-1, 0, 2), 0);
                due.is("24 its first key", x.line(-1, 0, 3), k);
                due.is("24 its last key", x.line(-1, 0, 4), k);
                due.is("25 its guess for the least", x.guess(-1, 0, -TOP), 0);
                due.is("25 its guess for the greatest", x.guess(-1, 0, TOP), 0);
                due.is("26 no a", x.bits(0, 0), 0);
                due.is("26 no b", x.bits(0, 1), 0);
                due.is("12 it is not rounded", x.round(0), BAD);
                due.is("21 no layer", x.layers(), 0);
                due.is("14 it is found", x.find(k), 1);
            }
        }
    }

    private static void aPieceOfOneKeyBehindOthers() {
        for (int kind = 1; kind <= 2; kind++) {
            LeaningIndex x = withMargin(kind - 1);
            x.fill(0, 1, 3);
            x.load(40);
            due.is("9 two pieces of kind " + kind, x.build(kind), 2);
            due.is("23 the first", x.piece(-1, 0, 0), kind);
            due.is("23 the last is flat", x.piece(-1, 1, 0), 0);
            due.is("23 of one key", x.piece(-1, 1, 1), 1);
            due.is("23 its margin is E", x.piece(-1, 1, 4), kind - 1);
            due.is("25 its guess", x.guess(-1, 1, TOP), 0);
            due.is("26 no a", x.bits(1, 0), 0);
            due.is("12 it is not rounded", x.round(1), BAD);
            due.is("14 it is found", x.find(40), 1);
        }
    }

    private static void anIndexOfOnePiece() {
        LeaningIndex x = withMargin(0);
        x.fill(0, 7, 5);
        due.is("9 one piece", x.build(1), 1);
        due.is("21 no layer", x.layers(), 0);
        due.is("22 it is of the index", x.pieces(-1), 1);
        due.is("22 none is of a layer", x.pieces(0), NONE);
        due.is("23 none is of a layer", x.piece(0, 0, 0), NONE);
        due.is("24 none is of a layer", x.line(0, 0, 0), NO_KEY);
        due.is("25 none is of a layer", x.guess(0, 0, 7), NONE);
        due.is("13 none is behind it", x.merge(0), NONE);
        due.is("14 it is at hand", x.find(14), 1);
        due.is("29 its number", x.told(0), 0);
        due.is("29 its guess", x.told(1), 2);
        due.is("29 its place", x.told(2), 2);
        due.is("29 the answer", x.told(3), 1);
        due.is("29 and no more", x.told(4), BAD);
        due.is("28 looks", x.looks(), 2);
    }

    private static void anIndexOfTwoPieces() {
        LeaningIndex x = twoPieces();
        due.is("21 one layer", x.layers(), 1);
        due.is("22 of one piece", x.pieces(0), 1);
        due.is("23 of two keys", x.piece(0, 0, 1), 2);
        due.is("24 the first", x.line(0, 0, 3), 0);
        due.is("24 the last", x.line(0, 0, 4), 10);
        due.is("22 no layer above", x.pieces(1), NONE);
        due.is("14 find", x.find(20), 1);
        due.is("29 of the layer and the index", x.told(6), 1);
        due.is("29 and no more", x.told(7), BAD);
    }

    /** Of 0 and 10 with a margin M the line rises by (1 + 2 M) / 10 from -M on. */
    private static void marginsOfLines() {
        int[] margins = {0, 1, 8, 39, 40};
        long[] rises = {1, 3, 17, 79, 81};
        long[] heights = {0, -10, -80, -390, -400};
        for (int i = 0; i < margins.length; i++) {
            LeaningIndex x = withMargin(margins[i]);
            x.load(0);
            x.load(10);
            due.is("9 build with " + margins[i], x.build(1), 1);
            due.is("24 rise with " + margins[i], x.line(-1, 0, 0), rises[i]);
            due.is("24 run with " + margins[i], x.line(-1, 0, 1), 10);
            due.is("24 height with " + margins[i], x.line(-1, 0, 2), heights[i]);
            due.is("23 margin " + margins[i], x.piece(-1, 0, 4), margins[i]);
        }
        int[] roundedOnes = {1, 2, 40};
        long[] roundedRises = {1, 3, 79};
        long[] roundedHeights = {0, -10, -390};
        for (int i = 0; i < roundedOnes.length; i++) {
            LeaningIndex x = withMargin(roundedOnes[i]);
            x.load(0);
            x.load(10);
            due.is("9 build 2 with " + roundedOnes[i], x.build(2), 1);
            due.is("23 rounded", x.piece(-1, 0, 0), 2);
            due.is("24 rise", x.line(-1, 0, 0), roundedRises[i]);
            due.is("24 run", x.line(-1, 0, 1), 10);
            due.is("24 height", x.line(-1, 0, 2), roundedHeights[i]);
            due.is("23 its margin is E", x.piece(-1, 0, 4), roundedOnes[i]);
            due.is("26 a", x.bits(0, 0), Double.doubleToLongBits(roundedRises[i] / 10.0));
            due.is("26 b", x.bits(0, 1), Double.doubleToLongBits(roundedHeights[i] / 10.0));
        }
        LeaningIndex y = withMargin(0);
        y.load(0);
        due.is("9 rounded with 0", y.build(2), BAD);
        y.build(1);
        due.is("10 rounded with 0", y.again(2), BAD);
        y.margin(8);
        y.load(10);
        y.build(2);
        due.is("24 15 / 10 without a common divisor", y.line(-1, 0, 0), 3);
        due.is("24 15 / 10 without a common divisor", y.line(-1, 0, 1), 2);
        due.is("24 its height", y.line(-1, 0, 2), -14);
    }

    /** The line of 0, 10, .. 40 with 40 is -40 + 21 / 10 k; with 0 it is k / 10. */
    private static void guessesThatAreHeld() {
        long[] keys = {-TOP, -1, 0, 19, 20, 22, 40, 41, TOP};
        int[] wide = {0, 0, 0, 0, 2, 4, 4, 4, 4};
        int[] narrow = {0, 0, 0, 1, 2, 2, 4, 4, 4};
        LeaningIndex x = withMargin(40);
        x.fill(0, 10, 5);
        x.build(1);
        LeaningIndex y = withMargin(0);
        y.fill(0, 10, 5);
        y.build(1);
        for (int i = 0; i < keys.length; i++) {
            due.is("25 guess with 40 for " + keys[i], x.guess(-1, 0, keys[i]), wide[i]);
            due.is("25 guess with 0 for " + keys[i], y.guess(-1, 0, keys[i]), narrow[i]);
        }
        due.is("23 misses 1 by 1, no more", x.piece(-1, 0, 5), 1);
        due.is("23 misses none", y.piece(-1, 0, 5), 0);
    }

    /** With 39: 82 / 40, -39: the same, for the keys of guessesThatAreHeld(), but 20. */
    private static void roundedGuessesThatAreHeld() {
        LeaningIndex x = withMargin(40);
        x.fill(0, 10, 5);
        x.build(2);
        long[] keys = {-TOP, -1, 0, 19, 20, 21, 40, 41, TOP};
        int[] guesses = {0, 0, 0, 0, 2, 4, 4, 4, 4};
        for (int i = 0; i < keys.length; i++) {
            due.is("25 rounded guess for " + keys[i], x.guess(-1, 0, keys[i]), guesses[i]);
        }
        due.is("24 its rise", x.line(-1, 0, 0), 41);
        due.is("24 its run", x.line(-1, 0, 1), 20);
    }

    private static void guessesAtWholeNumbers() {
        LeaningIndex x = withMargin(0);
        x.fill(-TOP, 49, 3);
        x.build(1);
        long[] away = {0, 1, 48, 49, 50, 97, 98, 99};
        int[] guesses = {0, 0, 0, 1, 1, 1, 2, 2};
        for (int i = 0; i < away.length; i++) {
            due.is("25 guess, away " + away[i], x.guess(-1, 0, -TOP + away[i]), guesses[i]);
        }
    }

    /** 300 keys nearly from the least to the greatest: no product wraps round. */
    private static void theWidestLine() {
        long step = 6688963210L;
        LeaningIndex x = withMargin(40);
        due.is("3 fill", x.fill(-TOP, step, 300), 300);
        due.is("9 one piece", x.build(1), 1);
        due.is("24 rise", x.line(-1, 0, 0), 299 + 80);
        due.is("24 run", x.line(-1, 0, 1), 299 * step);
        due.is("24 height", x.line(-1, 0, 2), -40 * 299 * step);
        due.is("24 first key", x.line(-1, 0, 3), -TOP);
        due.is("24 last key", x.line(-1, 0, 4), -TOP + 299 * step);
        due.is("25 guess for the least", x.guess(-1, 0, -TOP), 0);
        due.is("25 guess for the greatest", x.guess(-1, 0, TOP), 299);
        // -40 + 379 * 150 / 299 is 150.1 ..
        due.is("25 guess for the 150th", x.guess(-1, 0, -TOP + 150 * step), 150);
        // Places 32 and 33: 0.5 .., 1.8 ..; those above miss by less, as 299 is the last place.
        due.is("23 greatest miss", x.piece(-1, 0, 5), 32);
        due.is("9 rounded", x.build(2), 1);
        // 377 / (299 * step) with 39: both are 13 times a number.
        due.is("24 rise with 39", x.line(-1, 0, 0), 29);
        due.is("24 run with 39", x.line(-1, 0, 1), 23 * step);
        due.is("24 height with 39", x.line(-1, 0, 2), -39 * 23 * step);
        due.is("26 a", x.bits(0, 0), Double.doubleToLongBits(29.0 / (double) (23 * step)));
        due.is("26 b", x.bits(0, 1), Double.doubleToLongBits(-39.0));
        due.is("25 rounded guess for the greatest", x.guess(-1, 0, TOP), 299);
        due.is("14 the first", x.find(-TOP), 1);
        due.is("14 the last", x.find(-TOP + 299 * step), 1);
        due.is("14 none", x.find(TOP), 0);
    }

    private static void theSteepestLine() {
        LeaningIndex x = withMargin(40);
        x.fill(-TOP, 1, 300);
        x.build(1);
        due.is("24 rise", x.line(-1, 0, 0), 379);
        due.is("24 run", x.line(-1, 0, 1), 299);
        due.is("25 guess, far above", x.guess(-1, 0, TOP), 299);
        LeaningIndex y = withMargin(40);
        y.fill(TOP - 299, 1, 300);
        y.build(1);
        due.is("25 guess, far below", y.guess(-1, 0, -TOP), 0);
        due.is("12 rounded", y.round(0) >= 0 ? 1 : 0, 1);
        due.is("25 guess, far below", y.guess(-1, 0, -TOP), 0);
    }

    /** k - 1 is 1 below the place of 0, 1 above those of 5 to 10: many pairs have the least UPPER. */
    private static void linesThatTouchTwice() {
        LeaningIndex x = withMargin(1);
        long[] keys = {0, 2, 3, 5, 6, 7, 8, 9, 10};
        for (long k : keys) {
            x.load(k + 1000);
        }
        due.is("9 one piece", x.build(1), 1);
        due.is("24 rise", x.line(-1, 0, 0), 1);
        due.is("24 run", x.line(-1, 0, 1), 1);
        due.is("24 height", x.line(-1, 0, 2), -1);
        for (long k : keys) {
            due.is("25 guess for " + k, x.guess(-1, 0, k + 1000), Math.max(0, Math.min(8, k - 1)));
        }
    }

    private static void aLineThatBeginsAbove() {
        LeaningIndex x = withMargin(2);
        x.fill(0, 1, 5);
        x.load(1000);
        due.is("9 one piece", x.build(1), 1);
        // UPPER of 4 and 1000 is 5 / 996; at 4 the line is 2.
        due.is("24 rise", x.line(-1, 0, 0), 5);
        due.is("24 run", x.line(-1, 0, 1), 996);
        due.is("24 height", x.line(-1, 0, 2), 2 * 996 - 4 * 5);
        due.is("25 guess for the first", x.guess(-1, 0, 0), 1);
        due.is("25 guess for the fourth", x.guess(-1, 0, 3), 1);
        due.is("25 guess for the fifth", x.guess(-1, 0, 4), 2);
        due.is("25 guess for the last", x.guess(-1, 0, 1000), 5);
        // 1972 + 5 k is 997, 992 at -195, -196; 2, -3 at -394, -395.
        due.is("25 guess just above 0", x.guess(-1, 0, -394), 0);
        due.is("25 guess just below 0 is held", x.guess(-1, 0, -395), 0);
        due.is("25 guess just above 1", x.guess(-1, 0, -195), 1);
        due.is("25 guess just below 1", x.guess(-1, 0, -196), 0);
        due.is("25 guess far below", x.guess(-1, 0, -TOP), 0);
    }

    /** As doubles 1 / 49 * 49 is below 1. */
    private static void roundedByLess() {
        LeaningIndex x = withMargin(0);
        x.fill(0, 49, 3);
        x.build(1);
        due.is("12 it would miss", x.round(0), 0);
        due.is("12 its kind stays", x.piece(-1, 0, 0), 1);
        due.is("12 its guess stays", x.guess(-1, 0, 49), 1);
        due.is("12 no a", x.bits(0, 0), 0);
        due.is("12 no b", x.bits(0, 1), 0);
        due.is("12 its miss stays", x.piece(-1, 0, 5), 0);
        due.is("12 it would miss again", x.round(0), 0);
        x.margin(1);
        due.is("9 of kind 2", x.build(2), 1);
        due.is("9 it may miss by E", x.piece(-1, 0, 0), 2);
        due.is("25 its guess", x.guess(-1, 0, 49), 0);
        due.is("23 its miss", x.piece(-1, 0, 5), 1);
        due.is("14 it is found all the same", x.find(49), 1);
        due.is("29 its guess", x.told(1), 0);
        due.is("29 its place", x.told(2), 1);
        due.is("10 of kind 2", x.again(2), 1);
        due.is("10 it may miss by E", x.piece(-1, 0, 0), 2);
    }

    /** 0.9 + 0.35 * 6 is below 3 as doubles: 4 below the place. */
    private static void roundedByLessWithAMargin() {
        LeaningIndex x = withMargin(3);
        x.fill(0, 1, 7);
        x.load(26);
        due.is("9 one piece", x.build(1), 1);
        due.is("24 rise", x.line(-1, 0, 0), 7);
        due.is("24 run", x.line(-1, 0, 1), 20);
        due.is("24 height", x.line(-1, 0, 2), 18);
        due.is("23 its miss", x.piece(-1, 0, 5), 3);
        due.is("12 it would miss by 4", x.round(0), 0);
        due.is("12 its guess stays", x.guess(-1, 0, 6), 3);
        x.margin(4);
        due.is("9 with that line", x.build(2), 1);
        due.is("24 rise", x.line(-1, 0, 0), 7);
        due.is("9 it may miss by 4", x.piece(-1, 0, 0), 2);
        due.is("23 it does", x.piece(-1, 0, 5), 4);
        due.is("25 its guess", x.guess(-1, 0, 6), 2);
        due.is("14 it is found", x.find(6), 1);
        LeaningIndex y = withMargin(3);
        y.fill(0, 1, 7);
        y.load(24);
        y.build(1);
        // 12 / 18 + 7 / 18 * 6 is 3, just as far below 6 as may be; as doubles it need not be.
        double at6 = (double) y.line(-1, 0, 2) / 18.0 + 7.0 / 18.0 * 6.0;
        due.is("12 by at most 3 if it comes to 3", y.round(0), at6 >= 3.0 ? 1 : 0);
    }

    private static void roundGoesByThePiecesMargin() {
        LeaningIndex x = withMargin(0);
        x.fill(0, 49, 3);
        x.build(1);
        x.margin(40);
        due.is("12 misses by more than its margin, not than E", x.round(0), 0);
        LeaningIndex y = withMargin(1);
        y.fill(0, 1, 5);
        y.build(1);
        y.margin(0);
        due.is("12 misses by no more than its margin, if by more than E", y.round(0), 1);
        due.is("23 its margin stays", y.piece(-1, 0, 4), 1);
        due.is("12 it is rounded already", y.round(0), BAD);
    }

    private static void theMarginIsThatOfThen() {
        LeaningIndex x = twoPieces();
        x.margin(40);
        due.is("23 made with 0", x.piece(-1, 0, 4), 0);
        due.is("23 the layer too", x.piece(0, 0, 4), 0);
        due.is("25 its guess stays", x.guess(-1, 1, 14), 0);
        due.is("10 again", x.again(1), 1);
        due.is("23 made with 40", x.piece(-1, 0, 4), 40);
    }

    /** Of rounded pieces, made with E - 1, the layers are made with E; they lean. */
    private static void layersAreOfTheWholeMargin() {
        LeaningIndex x = twoPieces();
        x.margin(1);
        due.is("9 two pieces of kind 2", x.build(2), 2);
        due.is("23 rounded", x.piece(-1, 1, 0), 2);
        due.is("24 its line is that of 0", x.line(-1, 1, 2), 0);
        due.is("23 the layer leans", x.piece(0, 0, 0), 1);
        due.is("23 its margin", x.piece(0, 0, 4), 1);
        due.is("24 its rise", x.line(0, 0, 0), 3);
        due.is("24 its run", x.line(0, 0, 1), 10);
        due.is("24 its height", x.line(0, 0, 2), -10);
    }

    /** The guesses for 0 .. 4 are 0, 0, 2, 3, 4: only that for 1 misses. */
    private static void missesOfDroppedKeys() {
        LeaningIndex x = withMargin(1);
        x.fill(0, 1, 5);
        x.build(1);
        due.is("23 the greatest", x.piece(-1, 0, 5), 1);
        for (int k = 0; k < 5; k++) {
            due.is("16 drop " + k, x.drop(k), 1);
            due.is("23 it is of all keys, dropped ones too", x.piece(-1, 0, 5), 1);
        }
    }

    private static void layersAreMadeAnew() {
        LeaningIndex x = squares(8);
        due.is("21 of four pieces", x.layers(), 2);
        x.margin(5);
        x.drop(0);
        x.drop(4);
        x.insert(5);
        x.insert(4);
        x.round(1);
        due.is("21 not by margin, drop, insert, round", x.layers(), 2);
        due.is("23 not by margin, drop, insert, round", x.piece(0, 0, 4), 0);
        due.is("24 a dropped first key is one still", x.line(0, 0, 3), 0);
        for (int i = 0; i < 14; i++) {
            x.insert(50 + i);
        }
        due.is("23 not by late keys", x.piece(0, 0, 4), 0);
        x.insert(64);
        due.is("23 not by fifteen", x.piece(0, 0, 4), 0);
        x.insert(65);
        due.is("31 an insert made pieces", x.count(4), 1);
        due.is("23 by that one", x.piece(0, 0, 4), 5);
        x.margin(6);
        x.merge(0);
        due.is("23 by merge", x.piece(0, 0, 4), 6);
        x.margin(0);
        x.again(1);
        due.is("23 by again", x.piece(0, 0, 4), 0);
        x.clear();
        due.is("21 none without an index", x.layers(), NONE);
        due.is("22 none without an index", x.pieces(0), NONE);
        x.build(1);
        due.is("21 by build", x.layers(), 2);
    }

    private static void layersWhenPiecesOnlyGo() {
        LeaningIndex x = squares(8);
        for (long i = 0; i < 4; i++) {
            x.drop(i * i);
        }
        x.margin(5);
        due.is("13 two pieces without a key that is there go", x.merge(0), 0);
        due.is("22 two are left", x.pieces(-1), 2);
        due.is("21 one layer is left", x.layers(), 1);
        due.is("23 it is made with the E of then", x.piece(0, 0, 4), 5);
        due.is("24 of the first keys that are left", x.line(0, 0, 3), 16);
        due.is("31 no piece was made", x.count(3), 4);
        due.is("23 those left keep their margin", x.piece(-1, 0, 4), 0);
        due.is("15 the first one has what is below all now", x.insert(0), 1);
        due.is("27 it is late there", x.key(0, 0, true), 0);
        LeaningIndex y = squares(8);
        for (long i = 2; i < 6; i++) {
            y.drop(i * i);
        }
        y.drop(36);
        due.is("13 in the middle", y.merge(1), 0);
        due.is("23 behind it a first key stays dropped", y.piece(-1, 1, 2), 1);
        due.is("14 it is not found", y.find(36), 0);
        due.is("14 the one behind it is", y.find(49), 1);
        due.is("15 the piece ahead has what is between", y.insert(10), 1);
        due.is("27 it is late there", y.key(0, 0, true), 10);
    }

    private static void allKeysOfAPieceDropped() {
        LeaningIndex x = twoPieces();
        x.drop(10);
        x.drop(15);
        x.drop(20);
        due.is("22 it stays", x.pieces(-1), 2);
        due.is("23 it has its keys", x.piece(-1, 1, 1), 3);
        due.is("23 all dropped", x.piece(-1, 1, 2), 3);
        due.is("27 it has its keys", x.key(1, 0, false), 10);
        due.is("24 its first one", x.line(-1, 1, 3), 10);
        due.is("24 its last one", x.line(-1, 1, 4), 20);
        due.is("24 it leads there still", x.line(0, 0, 4), 10);
        due.is("31 those that are there", x.count(2), 3);
        due.is("14 not found", x.find(15), 0);
        due.is("28 once in the layer, twice in the piece", x.looks(), 3);
        due.is("29 its number", x.told(3), 1);
        due.is("29 its guess", x.told(4), 1);
        due.is("29 its place", x.told(5), 1);
        due.is("15 a late one", x.insert(12), 1);
        due.is("27 is its", x.key(1, 0, true), 12);
        due.is("14 found", x.find(12), 1);
        due.is("28 once in the layer, once in the piece, once of the late", x.looks(), 3);
        due.is("15 one comes back", x.insert(20), 1);
        due.is("23 two are dropped still", x.piece(-1, 1, 2), 2);
        due.is("23 one is late still", x.piece(-1, 1, 3), 1);
        due.is("17 at", x.at(3), 12);
        due.is("17 at", x.at(4), 20);
        due.is("10 again", x.again(1), 2);
        due.is("27 of those that are there", x.key(1, 0, false), 12);
    }

    private static void allKeysDropped() {
        LeaningIndex x = twoPieces();
        long[] keys = {0, 1, 2, 10, 15, 20};
        for (long k : keys) {
            due.is("16 drop " + k, x.drop(k), 1);
        }
        due.is("22 the pieces stay", x.pieces(-1), 2);
        due.is("21 the layer stays", x.layers(), 1);
        due.is("31 no key is there", x.count(2), 0);
        due.is("17 at", x.at(0), NO_KEY);
        due.is("18 below", x.below(TOP), 0);
        due.is("19 above", x.above(Long.MIN_VALUE), NO_KEY);
        due.is("20 between", x.between(-TOP, TOP), 0);
        due.is("14 find", x.find(0), 0);
        due.is("16 drop", x.drop(0), 0);
        due.is("15 the least comes back", x.insert(0), 1);
        due.is("23 not late", x.piece(-1, 0, 3), 0);
        due.is("23 not dropped", x.piece(-1, 0, 2), 2);
        due.is("16 drop it again", x.drop(0), 1);
        due.is("11 clear", x.clear(), 0);
        due.is("21 no index", x.layers(), NONE);
        x.build(1);
        for (long k : keys) {
            x.drop(k);
        }
        due.is("10 again of no kind", x.again(0), BAD);
        due.is("10 again, rounded with 0", x.again(2), BAD);
        due.is("22 the pieces stay", x.pieces(-1), 2);
        due.is("10 again of none", x.again(1), 0);
        due.is("21 no index", x.layers(), NONE);
        due.is("14 no index", x.find(0), NONE);
        due.is("10 no index", x.again(1), NONE);
    }

    private static void mergedToOneKey() {
        LeaningIndex x = twoPieces();
        long[] keys = {0, 1, 2, 10, 20};
        for (long k : keys) {
            x.drop(k);
        }
        due.is("13 one key is there", x.merge(0), 1);
        due.is("23 it is flat", x.piece(-1, 0, 0), 0);
        due.is("27 it is the piece's key", x.key(0, 0, false), 15);
        due.is("21 no layer", x.layers(), 0);
        due.is("13 none behind it", x.merge(0), NONE);
        due.is("14 it is found", x.find(15), 1);
        due.is("28 with one look", x.looks(), 1);
        LeaningIndex late = twoPieces();
        for (long k : keys) {
            late.drop(k);
        }
        late.drop(15);
        late.insert(TOP);
        due.is("13 a late key is there", late.merge(0), 1);
        due.is("27 it is the piece's key", late.key(0, 0, false), TOP);
        due.is("27 not late any more", late.key(0, 0, true), NO_KEY);
    }

    private static void mergedToNone() {
        LeaningIndex x = twoPieces();
        long[] keys = {0, 1, 2, 10, 15, 20};
        for (long k : keys) {
            x.drop(k);
        }
        x.insert(7);
        x.drop(7);
        due.is("13 none is there", x.merge(0), 0);
        due.is("13 no index", x.layers(), NONE);
        due.is("13 no index", x.merge(0), NONE);
        due.is("13 no index", x.insert(1), NONE);
        due.is("11 no index", x.clear(), 0);
        due.is("31 made so far", x.count(3), 2);
        due.is("9 build", x.build(1), 2);
        due.is("31 made so far", x.count(3), 4);
    }

    private static void placesOfMerge() {
        LeaningIndex x = squares(7);
        // Pieces 0 1, 4 9, 16 25, 36.
        int[] none = {-1, 3, 4, Integer.MIN_VALUE, Integer.MAX_VALUE, Integer.MAX_VALUE - 1};
        for (int p : none) {
            due.is("13 no two from " + p, x.merge(p), NONE);
            due.is("13 nothing is changed", x.pieces(-1), 4);
        }
        due.is("13 the last two", x.merge(2), 2);
        due.is("13 the first two", x.merge(0), 2);
        due.is("31 made", x.count(3), 8);
        due.is("31 not by an insert", x.count(4), 0);
        x.margin(40);
        due.is("13 the first two to one", x.merge(0), 1);
        due.is("13 the last two to one", x.merge(1), 1);
        due.is("13 the only two to one", x.merge(0), 1);
        due.is("13 one", x.merge(0), NONE);
    }

    /** 0 .. 4; 100, 103 .. 115; 1000, 1000000 .. 1000002: the last one rounded, with late and dropped. */
    private static void piecesThatStayAreAsTheyWere() {
        LeaningIndex x = IndexTest.sample();
        x.build(1);
        x.round(2);
        x.drop(1000);
        x.drop(1000001);
        x.insert(2000);
        x.insert(3000);
        LeaningIndex y = IndexTest.sample();
        y.build(1);
        y.round(2);
        y.drop(1000);
        y.drop(1000001);
        y.insert(2000);
        y.insert(3000);
        due.is("26 b is not 0", x.bits(2, 1), Double.doubleToLongBits(-1.0));
        int[] margins = {0, 1, 0, 3};
        for (int e : margins) {
            x.margin(e);
            due.is("13 merge with " + e, x.merge(0) > 0 ? 1 : 0, 1);
            sameLast(x, y, "after a merge with " + e);
        }
    }

    private static void sameLast(LeaningIndex x, LeaningIndex y, String when) {
        int p = x.pieces(-1) - 1;
        int q = y.pieces(-1) - 1;
        for (int what = 0; what < 6; what++) {
            due.is("23 what " + what + " " + when, x.piece(-1, p, what), y.piece(-1, q, what));
            due.is("24 what " + what + " " + when, x.line(-1, p, what), y.line(-1, q, what));
            due.is("26 what " + what + " " + when, x.bits(p, what), y.bits(q, what));
            due.is("27 key " + what + " " + when, x.key(p, what, false), y.key(q, what, false));
            due.is("27 late key " + what + " " + when, x.key(p, what, true), y.key(q, what, true));
        }
        long[] keys = {999, 1000, 2000, 500000, 1000000, 1000001, 1000002, 1000003};
        for (long k : keys) {
            due.is("25 guess for " + k + " " + when, x.guess(-1, p, k), y.guess(-1, q, k));
            due.is("14 find " + k + " " + when, x.find(k), y.find(k));
        }
    }

    private static void piecesThatComeHaveNothingOfOthers() {
        LeaningIndex x = withMargin(3);
        for (int i = 0; i < 3; i++) {
            x.wipe();
            x.fill(0, 1, 7);
            x.load(26);
            x.build(2);
            due.is("26 a rounded one", x.bits(0, 0) != 0 ? 1 : 0, 1);
            x.build(1);
            due.is("26 one that leans is not", x.bits(0, 0), 0);
            due.is("24 it has a height", x.line(-1, 0, 2), 18);
            x.insert(5000);
            x.drop(0);
            x.wipe();
            x.load(77);
            for (int times = 0; times < 3; times++) {
                due.is("9 build of one", x.build(1 + times % 2), 1);
                due.is("23 flat", x.piece(-1, 0, 0), 0);
                due.is("23 none dropped", x.piece(-1, 0, 2), 0);
                due.is("23 none late", x.piece(-1, 0, 3), 0);
                due.is("24 rise", x.line(-1, 0, 0), 0);
                due.is("24 run", x.line(-1, 0, 1), 1);
                due.is("24 height", x.line(-1, 0, 2), 0);
                due.is("25 guess", x.guess(-1, 0, TOP), 0);
                due.is("26 a", x.bits(0, 0), 0);
            }
        }
    }

    private static void noneIsDroppedOfPiecesThatCome() {
        LeaningIndex x = withMargin(8);
        x.fill(0, 1, 20);
        x.build(1);
        for (long k = 0; k < 10; k++) {
            x.drop(k);
            due.is("10 again", x.again(1), 1);
            due.is("23 none dropped", x.piece(-1, 0, 2), 0);
            due.is("23 those that are there", x.piece(-1, 0, 1), 19 - (int) k);
            due.is("10 once more", x.again(1), 1);
            due.is("23 none dropped", x.piece(-1, 0, 2), 0);
            due.is("14 the first is found", x.find(k + 1), 1);
        }
        due.is("9 build", x.build(1), 1);
        due.is("23 none dropped", x.piece(-1, 0, 2), 0);
        due.is("31 all of the row", x.count(2), 20);
    }

    private static void numbersThatAreNone() {
        LeaningIndex x = squares(9);
        int[] pieces = {5, 3, 2, 1};
        due.is("21 layers", x.layers(), 3);
        due.is("22 no layer 3", x.pieces(3), NONE);
        for (int layer : FAR_OUT) {
            due.is("22 no layer " + layer, x.pieces(layer), NONE);
            due.is("23 no layer " + layer, x.piece(layer, 0, 0), NONE);
            due.is("24 no layer " + layer, x.line(layer, 0, 0), NO_KEY);
            due.is("25 no layer " + layer, x.guess(layer, 0, 0), NONE);
            due.is("25 no layer, no key " + layer, x.guess(layer, 0, TOP + 1), NONE);
        }
        for (int layer = -1; layer < 3; layer++) {
            due.is("22 layer " + layer, x.pieces(layer), pieces[layer + 1]);
            int[] none = {-1, pieces[layer + 1], Integer.MIN_VALUE, Integer.MAX_VALUE};
            for (int p : none) {
                due.is("23 no piece " + p, x.piece(layer, p, 1), NONE);
                due.is("24 no piece " + p, x.line(layer, p, 1), NO_KEY);
                due.is("25 no piece " + p, x.guess(layer, p, 1), NONE);
            }
            due.is("23 what 6", x.piece(layer, 0, 6), NONE);
            due.is("23 what -1", x.piece(layer, 0, -1), NONE);
            due.is("23 what far out", x.piece(layer, 0, Integer.MIN_VALUE), NONE);
            due.is("24 what 5", x.line(layer, 0, 5), NO_KEY);
            due.is("24 what -1", x.line(layer, 0, -1), NO_KEY);
            due.is("24 what far out", x.line(layer, 0, Integer.MAX_VALUE), NO_KEY);
            due.is("25 a key too low", x.guess(layer, 0, -TOP - 1), BAD);
            due.is("25 a key too high", x.guess(layer, 0, TOP + 1), BAD);
            due.is("25 the least key", x.guess(layer, 0, -TOP), 0);
            due.is("25 the greatest key", x.guess(layer, 0, TOP), 1);
        }
    }

    private static void keysThatAreNone() {
        LeaningIndex x = withMargin(1);
        x.fill(0, 3, 4);
        x.build(2);
        x.insert(1);
        for (int p : FAR_OUT) {
            due.is("26 no piece " + p, x.bits(p, 0), 0);
            due.is("27 no piece " + p, x.key(p, 0, false), NO_KEY);
            due.is("27 no piece, late " + p, x.key(p, 0, true), NO_KEY);
            due.is("12 no piece " + p, x.round(p), NONE);
            due.is("26 no what " + p, x.bits(0, p), 0);
            due.is("27 no key " + p, x.key(0, p, false), NO_KEY);
            due.is("27 no late key " + p, x.key(0, p, true), NO_KEY);
        }
        due.is("26 no piece 1", x.bits(1, 0), 0);
        due.is("26 no piece -1", x.bits(-1, 0), 0);
        due.is("26 no what 2", x.bits(0, 2), 0);
        due.is("26 no what -1", x.bits(0, -1), 0);
        due.is("26 a", x.bits(0, 0), Double.doubleToLongBits(1.0 / 3.0));
        due.is("26 b is 0", x.bits(0, 1), 0);
        due.is("27 the first key", x.key(0, 0, false), 0);
        due.is("27 the last key", x.key(0, 3, false), 9);
        due.is("27 behind it", x.key(0, 4, false), NO_KEY);
        due.is("27 ahead of the first", x.key(0, -1, false), NO_KEY);
        due.is("27 the only late key", x.key(0, 0, true), 1);
        due.is("27 behind it", x.key(0, 1, true), NO_KEY);
        due.is("27 ahead of it", x.key(0, -1, true), NO_KEY);
        due.is("12 no piece 1", x.round(1), NONE);
        due.is("12 no piece -1", x.round(-1), NONE);
    }
}
