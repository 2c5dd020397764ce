/** What refuses: which refusal of several is told, and that no refused call changes anything. */
public final class RefusalsTest {
    private static final long TOP = 1000000000000L;
    private static final long NO_KEY = LeaningIndex.NO_KEY;
    private static final int NONE = LeaningIndex.NONE, BAD = LeaningIndex.BAD, FULL = LeaningIndex.FULL;
    private static final long[] NO_KEYS = {-TOP - 1, TOP + 1, Long.MIN_VALUE, Long.MAX_VALUE};
    private static final int[] NO_KINDS = {-1, 0, 3, Integer.MIN_VALUE, Integer.MAX_VALUE};
    private static final Due due = new Due();

    /** How an object comes to be, ahead of the call that is refused. */
    private enum State { NEW, LOADED, CLEARED, IN_USE, WITHOUT_FIND, FULL_OF_KEYS }

    private interface Call {
        long on(LeaningIndex x);
    }

    public static void main(String[] args) {
        withoutAnIndex(State.NEW);
        withoutAnIndex(State.LOADED);
        withoutAnIndex(State.CLEARED);
        withoutARow();
        keysThatAreNone();
        kindsThatAreNone();
        piecesThatAreNone();
        otherKinds();
        numbersThatAreNone();
        theRow();
        withoutAFind();
        aFullRow();
        aFullIndex();
        answersThatChangeNothing();
        due.end("RefusalsTest");
    }

    private static LeaningIndex made(State state) {
        LeaningIndex x = new LeaningIndex();
        switch (state) {
            case NEW:
                break;
            case LOADED:
                loadSome(x);
                break;
            case CLEARED:
                use(x);
                x.clear();
                break;
            case IN_USE:
                use(x);
                break;
            case WITHOUT_FIND:
                loadSome(x);
                x.build(1);
                break;
            default:
                x.margin(1);
                x.fill(0, 2, 300);
                x.build(2);
                x.find(4);
                x.drop(6);
                x.drop(8);
                x.insert(7);
                x.insert(9);
                break;
        }
        return x;
    }

    private static void loadSome(LeaningIndex x) {
        x.margin(1);
        x.fill(0, 1, 5);
        x.fill(100, 3, 6);
        x.load(1000);
        x.fill(1000000, 1, 3);
        x.load(2000000);
    }

    /** A flat piece, rounded ones and one that leans; late keys, dropped ones; a find; E is 0. */
    private static void use(LeaningIndex x) {
        loadSome(x);
        x.build(1);
        x.round(0);
        x.insert(50);
        x.insert(104);
        x.insert(-7);
        x.drop(100);
        x.drop(0);
        x.find(104);
        x.margin(0);
    }

    private static void refuses(State state, String call, long want, Call refused) {
        LeaningIndex x = made(state);
        due.is(state.name() + " " + call, refused.on(x), want);
        boolean isAlike = Seen.of(x).equals(Seen.of(made(state)));
        due.is(state.name() + " " + call + " changes nothing", isAlike ? 1 : 0, 1);
    }

    /** NONE is told ahead of BAD. */
    private static void withoutAnIndex(State state) {
        long[] keys = {0, TOP + 1, Long.MIN_VALUE};
        for (long k : keys) {
            refuses(state, "14 find " + k, NONE, x -> x.find(k));
            refuses(state, "15 insert " + k, NONE, x -> x.insert(k));
            refuses(state, "16 drop " + k, NONE, x -> x.drop(k));
            refuses(state, "18 below " + k, NONE, x -> x.below(k));
            refuses(state, "19 above " + k, NO_KEY, x -> x.above(k));
            refuses(state, "20 between " + k + " and 1", NONE, x -> x.between(k, 1));
            refuses(state, "20 between 1 and " + k, NONE, x -> x.between(1, k));
            refuses(state, "25 guess " + k, NONE, x -> x.guess(-1, 0, k));
            refuses(state, "30 check " + k, NONE, x -> x.check(k));
        }
        for (int kind = -1; kind < 4; kind++) {
            int what = kind;
            refuses(state, "10 again " + what, NONE, x -> x.again(what));
            refuses(state, "12 round " + what, NONE, x -> x.round(what));
            refuses(state, "13 merge " + what, NONE, x -> x.merge(what));
            refuses(state, "17 at " + what, NO_KEY, x -> x.at(what));
            refuses(state, "22 pieces " + what, NONE, x -> x.pieces(what));
            refuses(state, "23 piece " + what, NONE, x -> x.piece(-1, 0, what));
            refuses(state, "24 line " + what, NO_KEY, x -> x.line(-1, 0, what));
            refuses(state, "26 bits " + what, 0, x -> x.bits(0, what));
            refuses(state, "27 key " + what, NO_KEY, x -> x.key(0, what, false));
            refuses(state, "27 late key " + what, NO_KEY, x -> x.key(0, what, true));
        }
        refuses(state, "11 clear", 0, x -> x.clear());
        refuses(state, "21 layers", NONE, x -> x.layers());
        refuses(state, "31 count", NONE, x -> x.count(5));
    }

    private static void withoutARow() {
        refuses(State.NEW, "9 build 1", BAD, x -> x.build(1));
        refuses(State.NEW, "9 build 2", BAD, x -> x.build(2));
        refuses(State.NEW, "9 build 0", BAD, x -> x.build(0));
        refuses(State.NEW, "7 passes", BAD, x -> x.passes(0, 1, 2, 0));
        refuses(State.NEW, "8 span", NONE, x -> x.span(0, 0));
        refuses(State.NEW, "4 wipe", 0, x -> x.wipe());
        refuses(State.NEW, "29 told", BAD, x -> x.told(0));
        // An index that stands is not changed by a build() of an empty row.
        LeaningIndex x = made(State.IN_USE);
        x.wipe();
        due.is("9 build of none", x.build(1), BAD);
        LeaningIndex y = made(State.IN_USE);
        y.wipe();
        due.is("9 it changes nothing", Seen.of(x).equals(Seen.of(y)) ? 1 : 0, 1);
    }

    private static void keysThatAreNone() {
        State[] states = {State.IN_USE, State.WITHOUT_FIND, State.FULL_OF_KEYS};
        for (State state : states) {
            for (long k : NO_KEYS) {
                refuses(state, "14 find " + k, BAD, x -> x.find(k));
                refuses(state, "15 insert " + k, BAD, x -> x.insert(k));
                refuses(state, "16 drop " + k, BAD, x -> x.drop(k));
                refuses(state, "18 below " + k, BAD, x -> x.below(k));
                refuses(state, "20 between " + k + " and 1", BAD, x -> x.between(k, 1));
                refuses(state, "20 between 1 and " + k, BAD, x -> x.between(1, k));
                refuses(state, "25 guess " + k, BAD, x -> x.guess(-1, 0, k));
                refuses(state, "25 guess of no piece " + k, NONE, x -> x.guess(-1, 99, k));
                refuses(state, "25 guess of no layer " + k, NONE, x -> x.guess(9, 0, k));
                refuses(state, "30 check " + k, BAD, x -> x.check(k));
            }
        }
    }

    private static void kindsThatAreNone() {
        for (int kind : NO_KINDS) {
            refuses(State.IN_USE, "9 build " + kind, BAD, x -> x.build(kind));
            refuses(State.IN_USE, "10 again " + kind, BAD, x -> x.again(kind));
            refuses(State.LOADED, "9 build " + kind, BAD, x -> x.build(kind));
        }
        // E is 0 there.
        refuses(State.IN_USE, "9 build 2 with 0", BAD, x -> x.build(2));
        refuses(State.IN_USE, "10 again 2 with 0", BAD, x -> x.again(2));
        refuses(State.CLEARED, "9 build 2 with 0", BAD, x -> x.build(2));
    }

    private static void piecesThatAreNone() {
        int[] pieces = {-1, made(State.IN_USE).pieces(-1), Integer.MIN_VALUE, Integer.MAX_VALUE};
        for (int p : pieces) {
            refuses(State.IN_USE, "12 round " + p, NONE, x -> x.round(p));
            refuses(State.IN_USE, "13 merge " + p, NONE, x -> x.merge(p));
            refuses(State.IN_USE, "23 piece " + p, NONE, x -> x.piece(-1, p, 0));
            refuses(State.IN_USE, "24 line " + p, NO_KEY, x -> x.line(-1, p, 0));
            refuses(State.IN_USE, "25 guess " + p, NONE, x -> x.guess(-1, p, 0));
            refuses(State.IN_USE, "26 bits " + p, 0, x -> x.bits(p, 0));
            refuses(State.IN_USE, "27 key " + p, NO_KEY, x -> x.key(p, 0, false));
            refuses(State.IN_USE, "27 late key " + p, NO_KEY, x -> x.key(p, 0, true));
        }
        int last = made(State.IN_USE).pieces(-1) - 1;
        refuses(State.IN_USE, "13 merge of the last", NONE, x -> x.merge(last));
        refuses(State.FULL_OF_KEYS, "13 merge of the only one", NONE, x -> x.merge(0));
    }

    private static void otherKinds() {
        LeaningIndex x = made(State.IN_USE);
        due.is("12 a rounded one", x.piece(-1, 0, 0), 2);
        due.is("12 one that leans", x.piece(-1, 1, 0), 1);
        refuses(State.IN_USE, "12 round of a rounded one", BAD, y -> y.round(0));
        LeaningIndex flat = new LeaningIndex();
        flat.load(5);
        flat.build(1);
        due.is("12 round of a flat one", flat.round(0), BAD);
        due.is("12 it stays flat", flat.piece(-1, 0, 0), 0);
    }

    private static void numbersThatAreNone() {
        int[] layers = {-2, made(State.IN_USE).layers(), Integer.MIN_VALUE, Integer.MAX_VALUE};
        for (int layer : layers) {
            refuses(State.IN_USE, "22 pieces " + layer, NONE, x -> x.pieces(layer));
            refuses(State.IN_USE, "23 piece " + layer, NONE, x -> x.piece(layer, 0, 0));
            refuses(State.IN_USE, "24 line " + layer, NO_KEY, x -> x.line(layer, 0, 0));
            refuses(State.IN_USE, "25 guess " + layer, NONE, x -> x.guess(layer, 0, 0));
        }
        int[] numbers = {-1, 6, 1000, Integer.MIN_VALUE, Integer.MAX_VALUE};
        for (int what : numbers) {
            refuses(State.IN_USE, "8 span " + what, NONE, x -> x.span(0, what));
            refuses(State.IN_USE, "23 piece " + what, NONE, x -> x.piece(-1, 0, what));
            refuses(State.IN_USE, "24 line " + what, NO_KEY, x -> x.line(-1, 0, what));
            refuses(State.IN_USE, "26 bits " + what, 0, x -> x.bits(0, what));
            refuses(State.IN_USE, "27 key " + what, NO_KEY, x -> x.key(0, what, false));
            refuses(State.IN_USE, "27 late key " + what, NO_KEY, x -> x.key(0, what, true));
            refuses(State.IN_USE, "31 count " + what, NONE, x -> x.count(what));
        }
        int[] places = {-1, 7, Integer.MIN_VALUE, Integer.MAX_VALUE};
        for (int i : places) {
            refuses(State.IN_USE, "29 told " + i, BAD, x -> x.told(i));
        }
    }

    private static void theRow() {
        int[] margins = {-1, 41, Integer.MIN_VALUE, Integer.MAX_VALUE};
        for (int m : margins) {
            refuses(State.LOADED, "5 margin " + m, BAD, x -> x.margin(m));
            refuses(State.LOADED, "6 few " + m, BAD, x -> x.few(m));
            refuses(State.LOADED, "7 passes " + m, BAD, x -> x.passes(0, 1, 2, m));
        }
        for (long k : NO_KEYS) {
            refuses(State.LOADED, "2 load " + k, BAD, x -> x.load(k));
            refuses(State.LOADED, "3 fill " + k, BAD, x -> x.fill(k, 1, 1));
        }
        refuses(State.LOADED, "2 load the last one", BAD, x -> x.load(2000000));
        refuses(State.LOADED, "3 fill from the last one", BAD, x -> x.fill(2000000, 1, 2));
        refuses(State.LOADED, "3 fill none", BAD, x -> x.fill(2000001, 1, 0));
        refuses(State.LOADED, "3 fill without a step", BAD, x -> x.fill(2000001, 0, 2));
        refuses(State.LOADED, "3 fill behind the greatest", BAD, x -> x.fill(TOP - 5, 3, 3));
        refuses(State.LOADED, "3 fill too many", FULL, x -> x.fill(2000001, 1, 285));
        refuses(State.LOADED, "3 fill too many and none", BAD, x -> x.fill(2000001, TOP, 285));
        refuses(State.LOADED, "7 passes no place", BAD, x -> x.passes(0, 1, 16, 0));
        refuses(State.LOADED, "8 span 9", NONE, x -> x.span(9, 0));
        refuses(State.IN_USE, "2 load the last one", BAD, x -> x.load(2000000));
        refuses(State.IN_USE, "5 margin 41", BAD, x -> x.margin(41));
    }

    private static void withoutAFind() {
        refuses(State.WITHOUT_FIND, "30 check", BAD, x -> x.check(0));
        refuses(State.WITHOUT_FIND, "28 looks", 0, x -> x.looks());
        refuses(State.WITHOUT_FIND, "29 told", BAD, x -> x.told(0));
        refuses(State.WITHOUT_FIND, "14 find", BAD, x -> x.find(TOP + 1));
    }

    private static void aFullRow() {
        refuses(State.FULL_OF_KEYS, "2 load", FULL, x -> x.load(599));
        refuses(State.FULL_OF_KEYS, "2 load the last one", BAD, x -> x.load(598));
        refuses(State.FULL_OF_KEYS, "2 load none", BAD, x -> x.load(TOP + 1));
        refuses(State.FULL_OF_KEYS, "3 fill", FULL, x -> x.fill(599, 1, 1));
        refuses(State.FULL_OF_KEYS, "3 fill from the last one", BAD, x -> x.fill(598, 1, 1));
        refuses(State.FULL_OF_KEYS, "3 fill none", BAD, x -> x.fill(599, 1, 0));
        refuses(State.FULL_OF_KEYS, "3 fill without a step", BAD, x -> x.fill(599, 0, 1));
        refuses(State.FULL_OF_KEYS, "3 fill behind the greatest", BAD, x -> x.fill(599, TOP, 2));
    }

    private static void aFullIndex() {
        due.is("15 it is full", made(State.FULL_OF_KEYS).count(2), 300);
        refuses(State.FULL_OF_KEYS, "15 insert", FULL, x -> x.insert(1));
        refuses(State.FULL_OF_KEYS, "15 insert a dropped one", FULL, x -> x.insert(6));
        refuses(State.FULL_OF_KEYS, "15 insert one that is there", 0, x -> x.insert(4));
        refuses(State.FULL_OF_KEYS, "15 insert a late one", 0, x -> x.insert(7));
        refuses(State.FULL_OF_KEYS, "15 insert none", BAD, x -> x.insert(TOP + 1));
        refuses(State.FULL_OF_KEYS, "15 insert below all", FULL, x -> x.insert(-TOP));
    }

    /** Not refused, but there is nothing to do, or only to tell. */
    private static void answersThatChangeNothing() {
        refuses(State.IN_USE, "15 insert one that is there", 0, x -> x.insert(50));
        refuses(State.IN_USE, "16 drop one that is not", 0, x -> x.drop(100));
        refuses(State.IN_USE, "16 drop one that never was", 0, x -> x.drop(51));
        refuses(State.IN_USE, "30 check", 3, x -> x.check(104));
        refuses(State.IN_USE, "30 check another", 2, x -> x.check(3));
        refuses(State.IN_USE, "6 few", 1, x -> x.few(40));
        refuses(State.IN_USE, "20 between", 0, x -> x.between(4, 4));
        LeaningIndex x = new LeaningIndex();
        x.margin(0);
        x.fill(0, 49, 3);
        x.build(1);
        LeaningIndex y = new LeaningIndex();
        y.margin(0);
        y.fill(0, 49, 3);
        y.build(1);
        due.is("12 round of one that would miss", x.round(0), 0);
        due.is("12 it changes nothing", Seen.of(x).equals(Seen.of(y)) ? 1 : 0, 1);
    }
}
