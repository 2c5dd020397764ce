/** Long mixed runs of calls: each answer is compared with the Model's. */
public final class ModelTest {
    private static final long TOP = 1000000000000L;
    private static final Due due = new Due();

    private final LeaningIndex x = new LeaningIndex();
    private final Model model = new Model();
    private final String run;
    private final int style;
    private long seed;

    private ModelTest(int number) {
        run = "run " + number + " ";
        style = number % 6;
        seed = number * 7919L + 17;
    }

    public static void main(String[] args) {
        for (int number = 0; number < 180; number++) {
            new ModelTest(number).go();
        }
        due.end("ModelTest");
    }

    /** The next of a row of numbers that looks like chance, but is the same in each test. */
    private int next(int below) {
        seed = seed * 6364136223846793005L + 1442695040888963407L;
        return (int) ((seed >>> 33) % below);
    }

    private void go() {
        int calls = 0;
        boolean isLarge = next(10) == 0;
        calls += start(isLarge ? 300 : 10 + next(70));
        while (calls < 512) {
            calls += oneCall();
        }
        // What stands at the end, read whole; the calls of this reading change nothing.
        readAll();
    }

    private int start(int keys) {
        margin(style == 0 ? next(2) : style == 1 ? 1 + next(3) : next(6));
        int calls = 2;
        long k = style == 2 ? -TOP : -next(500);
        while (model.count(0) < keys && calls < 200) {
            int n = Math.min(1 + next(style == 3 ? 40 : 6), keys - model.count(0));
            long step = 1 + next(style == 2 ? 1000000000 : 7);
            fill(k, step, n);
            k += step * n + next(style == 4 ? 100000 : 12);
            calls++;
        }
        build(1 + next(2));
        return calls;
    }

    private long aKey() {
        int size = model.count(2);
        int choice = next(40);
        if (choice == 0) {
            long[] odd = {TOP, -TOP, TOP + 1, -TOP - 1, Long.MIN_VALUE, Long.MAX_VALUE, 0, 1};
            return odd[next(odd.length)];
        }
        if (size > 0 && choice < 34) {
            long near = model.at(next(size));
            return choice < 10 ? near : near + next(9) - 4;
        }
        if (choice < 38) {
            return next(1500) - 600;
        }
        return (next(2000000) - 1000000) * 1000000L + next(1000000);
    }

    private int oneCall() {
        int choice = next(100);
        if (choice < (style == 5 ? 60 : 26)) {
            insert(style == 5 && next(3) > 0 ? aKeyOfACrowd() : aKey());
        } else if (choice < 72) {
            aFindOrDrop(choice);
        } else if (choice < 80) {
            return aLook();
        } else if (choice < 92) {
            return aTold();
        } else {
            aChange();
        }
        return 1;
    }

    private long aKeyOfACrowd() {
        return 3000 + next(400);
    }

    private void aFindOrDrop(int choice) {
        long k = aKey();
        if (choice % 4 == 0) {
            due.is(run + "drop(" + k + ")", x.drop(k), model.drop(k));
        } else if (choice % 4 == 1) {
            due.is(run + "check(" + k + ")", x.check(k), model.check(k));
        } else {
            due.is(run + "find(" + k + ")", x.find(k), model.find(k));
            due.is(run + "looks()", x.looks(), model.looks());
            int i = next(20) - 2;
            due.is(run + "told(" + i + ")", x.told(i), model.told(i));
        }
    }

    private int aLook() {
        long k = aKey();
        long to = aKey();
        int i = next(320) - 5;
        due.is(run + "at(" + i + ")", x.at(i), model.at(i));
        due.is(run + "below(" + k + ")", x.below(k), model.below(k));
        due.is(run + "above(" + k + ")", x.above(k), model.above(k));
        due.is(run + "between(" + k + ", " + to + ")", x.between(k, to), model.between(k, to));
        return 4;
    }

    private int aTold() {
        int layer = next(6) - 2;
        int p = next(Math.max(1, model.pieces(layer)) + 2) - 1;
        int what = next(8) - 1;
        int i = next(18) - 1;
        long k = aKey();
        String at = run + "layer " + layer + " piece " + p + " what " + what;
        due.is(at + " layers()", x.layers(), model.layers());
        due.is(at + " pieces()", x.pieces(layer), model.pieces(layer));
        due.is(at + " piece()", x.piece(layer, p, what), model.piece(layer, p, what));
        due.is(at + " line()", x.line(layer, p, what), model.line(layer, p, what));
        due.is(at + " guess() of " + k, x.guess(layer, p, k), model.guess(layer, p, k));
        due.is(at + " bits()", x.bits(p, what), model.bits(p, what));
        due.is(at + " key(" + i + ")", x.key(p, i, false), model.key(p, i, false));
        due.is(at + " late key(" + i + ")", x.key(p, i, true), model.key(p, i, true));
        due.is(at + " count()", x.count(what), model.count(what));
        return 9;
    }

    private void aChange() {
        switch (next(14)) {
            case 0: build(next(20) == 0 ? next(5) - 1 : 1 + next(2)); break;
            case 1: again(next(10) == 0 ? next(5) - 1 : 1 + next(2)); break;
            case 2: case 3: case 4: merge(); break;
            case 5: case 6: round(); break;
            case 7: margin(next(20) == 0 ? next(45) - 2 : next(7)); break;
            case 8: few(); break;
            case 9: passes(); break;
            case 10: case 11: span(); break;
            case 12: rowOfNow(); break;
            default: rareChange(); break;
        }
    }

    private void rareChange() {
        if (next(12) == 0) {
            due.is(run + "clear()", x.clear(), model.clear());
        } else if (next(4) == 0) {
            margin(next(41));
        }
    }

    private void rowOfNow() {
        if (next(3) == 0) {
            due.is(run + "wipe()", x.wipe(), model.wipe());
        }
        long k = aKey();
        due.is(run + "load(" + k + ")", x.load(k), model.load(k));
        fill(aKey(), next(6) - 1, next(30) - 1);
    }

    private void fill(long first, long step, int n) {
        due.is(run + "fill(" + first + ", " + step + ", " + n + ")",
                x.fill(first, step, n), model.fill(first, step, n));
    }

    private void margin(int e) {
        due.is(run + "margin(" + e + ")", x.margin(e), model.margin(e));
    }

    private void build(int kind) {
        due.is(run + "build(" + kind + ")", x.build(kind), model.build(kind));
    }

    private void again(int kind) {
        due.is(run + "again(" + kind + ")", x.again(kind), model.again(kind));
    }

    private void insert(long k) {
        due.is(run + "insert(" + k + ")", x.insert(k), model.insert(k));
    }

    private void merge() {
        int p = next(Math.max(1, model.pieces(-1)) + 1) - 1;
        due.is(run + "merge(" + p + ")", x.merge(p), model.merge(p));
    }

    private void round() {
        int p = next(Math.max(1, model.pieces(-1)) + 1) - 1;
        due.is(run + "round(" + p + ")", x.round(p), model.round(p));
    }

    private void few() {
        int m = next(44) - 2;
        due.is(run + "few(" + m + ")", x.few(m), model.few(m));
    }

    private void passes() {
        int i = next(60) - 1;
        int j = i + next(40);
        int l = j + next(40);
        int m = next(5) == 0 ? next(44) - 2 : next(8);
        due.is(run + "passes(" + i + ", " + j + ", " + l + ", " + m + ")",
                x.passes(i, j, l, m), model.passes(i, j, l, m));
    }

    private void span() {
        int n = next(12) - 1;
        for (int what = -1; what < 5; what++) {
            due.is(run + "span(" + n + ", " + what + ")", x.span(n, what), model.span(n, what));
        }
    }

    private void readAll() {
        due.is(run + "layers()", x.layers(), model.layers());
        for (int layer = -1; layer <= model.layers(); layer++) {
            due.is(run + "pieces(" + layer + ")", x.pieces(layer), model.pieces(layer));
            for (int p = 0; p < model.pieces(layer); p++) {
                readPiece(layer, p);
            }
        }
        for (int i = -1; i <= 300; i++) {
            due.is(run + "at(" + i + ")", x.at(i), model.at(i));
        }
        for (int i = -1; i < 40; i++) {
            due.is(run + "told(" + i + ")", x.told(i), model.told(i));
        }
    }

    private void readPiece(int layer, int p) {
        String at = run + "layer " + layer + " piece " + p + " ";
        for (int what = 0; what < 6; what++) {
            due.is(at + what, x.piece(layer, p, what), model.piece(layer, p, what));
            due.is(at + "line " + what, x.line(layer, p, what), model.line(layer, p, what));
        }
        due.is(at + "a", x.bits(p, 0), model.bits(p, 0));
        due.is(at + "b", x.bits(p, 1), model.bits(p, 1));
        int keys = layer == -1 ? model.piece(layer, p, 1) : 0;
        for (int i = 0; i < keys; i++) {
            due.is(at + "key " + i, x.key(p, i, false), model.key(p, i, false));
            due.is(at + "late key " + i, x.key(p, i, true), model.key(p, i, true));
        }
    }
}
