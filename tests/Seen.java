import java.util.ArrayList;
import java.util.List;

/** All that an object tells, as one row of numbers; its index is built anew of its row in the end. */
final class Seen {
    private final LeaningIndex x;
    private final List<Long> numbers = new ArrayList<>();

    private Seen(LeaningIndex x) {
        this.x = x;
    }

    static List<Long> of(LeaningIndex x) {
        Seen seen = new Seen(x);
        seen.readFinds();
        seen.readRow();
        seen.readTiers();
        seen.readKeysThere();
        seen.readKeysOfTheRow();
        return seen.numbers;
    }

    private void readFinds() {
        add(x.looks());
        int number = 0;
        for (int i = 0; i < 30 && number != LeaningIndex.BAD; i++) {
            number = x.told(i);
            add(number);
        }
        for (int what = 0; what < 5; what++) {
            add(x.count(what));
        }
    }

    private void readRow() {
        add(x.few(0));
        add(x.few(1));
        for (int n = 0; n < 5; n++) {
            add(x.span(n, 0));
            add(x.span(n, 3));
        }
    }

    private void readTiers() {
        add(x.layers());
        for (int layer = -1; layer < x.layers(); layer++) {
            add(x.pieces(layer));
            for (int p = 0; p < x.pieces(layer); p++) {
                readPiece(layer, p);
            }
        }
    }

    private void readPiece(int layer, int p) {
        for (int what = 0; what < 6; what++) {
            add(x.piece(layer, p, what));
        }
        for (int what = 0; what < 5; what++) {
            add(x.line(layer, p, what));
        }
        if (layer == -1) {
            add(x.bits(p, 0));
            add(x.bits(p, 1));
            for (int i = 0; i < x.piece(layer, p, 3); i++) {
                add(x.key(p, i, true));
            }
        }
    }

    /** Not all of them when they are many: an object is good for 512 calls. */
    private void readKeysThere() {
        int each = x.count(2) > 100 ? 9 : 1;
        for (int i = 0; i < x.count(2); i += each) {
            add(x.at(i));
        }
    }

    private void readKeysOfTheRow() {
        x.margin(0);
        add(x.build(1));
        for (int p = 0; p < x.pieces(-1); p++) {
            add(x.piece(-1, p, 1));
            add(x.line(-1, p, 3));
            add(x.line(-1, p, 4));
        }
    }

    private void add(long number) {
        numbers.add(number);
    }
}
