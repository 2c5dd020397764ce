import java.math.BigInteger;
import java.util.ArrayList;
import java.util.List;
import java.util.TreeSet;

/** The document told once more, as plainly as the Java library allows: what ModelTest compares with. */
final class Model {
    static final int NONE = -1, BAD = -2, FULL = -3;
    static final long NO_KEY = Long.MIN_VALUE;
    private static final long TOP = 1000000000000L;

    /** How steep, exactly. */
    private record Slope(BigInteger rise, BigInteger run) implements Comparable<Slope> {
        static Slope of(long rise, long run) {
            return new Slope(BigInteger.valueOf(rise), BigInteger.valueOf(run));
        }

        public int compareTo(Slope other) {
            return rise.multiply(other.run).compareTo(other.rise.multiply(run));
        }
    }

    private static final class Piece {
        int kind;
        int margin;
        List<Long> keys = new ArrayList<>();
        TreeSet<Long> dropped = new TreeSet<>();
        TreeSet<Long> late = new TreeSet<>();
        long rise = 0;
        long run = 1;
        long height = 0;

        long first() {
            return keys.get(0);
        }

        double a() {
            return (double) rise / (double) run;
        }

        double b() {
            return (double) height / (double) run;
        }

        int guessFor(long k) {
            if (kind == 0) {
                return 0;
            }
            long place = kind == 1
                    ? Math.floorDiv(height + rise * (k - first()), run)
                    : (long) Math.floor(b() + a() * (double) (k - first()));
            return (int) Math.max(0, Math.min(place, keys.size() - 1));
        }

        int miss() {
            int most = 0;
            for (int i = 0; i < keys.size(); i++) {
                most = Math.max(most, Math.abs(guessFor(keys.get(i)) - i));
            }
            return most;
        }

        TreeSet<Long> there() {
            TreeSet<Long> keysThere = new TreeSet<>(keys);
            keysThere.removeAll(dropped);
            keysThere.addAll(late);
            return keysThere;
        }
    }

    private final List<Long> row = new ArrayList<>();
    private int e = 8;
    private List<Piece> index = new ArrayList<>();
    private List<List<Piece>> layers = new ArrayList<>();
    private int made = 0;
    private int insertsMade = 0;
    private List<Integer> witness = new ArrayList<>();
    private int looked = 0;

    private static boolean isKey(long k) {
        return -TOP <= k && k <= TOP;
    }

    private static boolean isMargin(int m) {
        return 0 <= m && m <= 40;
    }

    private static Slope least(List<Long> keys, int[] places, int m) {
        Slope least = null;
        for (int j : places) {
            for (int i : places) {
                if (i < j) {
                    Slope upper = Slope.of(j - i + 2L * m, keys.get(j) - keys.get(i));
                    least = least == null || upper.compareTo(least) < 0 ? upper : least;
                }
            }
        }
        return least;
    }

    private static boolean passed(List<Long> keys, int[] places, int m) {
        Slope upper = least(keys, places, m);
        for (int j : places) {
            for (int i : places) {
                if (i < j && Slope.of(j - i - 2L * m, keys.get(j) - keys.get(i)).compareTo(upper) > 0) {
                    return false;
                }
            }
        }
        return true;
    }

    private static int[] from(int start, int end) {
        int[] places = new int[end - start];
        for (int i = 0; i < places.length; i++) {
            places[i] = start + i;
        }
        return places;
    }

    /** Where spans begin, and behind them where the last one ends. */
    private static List<Integer> spans(List<Long> keys, int m) {
        List<Integer> starts = new ArrayList<>();
        int start = 0;
        starts.add(0);
        while (start < keys.size()) {
            // What passes some keys passes fewer: the last end that is passed is sought by halves.
            int good = start + 1;
            int bad = keys.size() + 1;
            while (good + 1 < bad) {
                int mid = (good + bad) / 2;
                if (passed(keys, from(start, mid), m)) {
                    good = mid;
                } else {
                    bad = mid;
                }
            }
            start = good;
            starts.add(start);
        }
        return starts;
    }

    private static Piece pieceOf(List<Long> keys, int kind, int e) {
        Piece piece = new Piece();
        piece.keys.addAll(keys);
        piece.margin = e;
        if (keys.size() == 1) {
            return piece;
        }
        int m = kind == 2 ? e - 1 : e;
        Slope steep = least(keys, from(0, keys.size()), m);
        BigInteger divisor = steep.rise.gcd(steep.run);
        piece.rise = steep.rise.divide(divisor).longValueExact();
        piece.run = steep.run.divide(divisor).longValueExact();
        // Nowhere below its place by more than m, and at some key just by m.
        long height = Long.MIN_VALUE;
        for (int i = 0; i < keys.size(); i++) {
            height = Math.max(height, piece.run * (i - m) - piece.rise * (keys.get(i) - keys.get(0)));
        }
        piece.height = height;
        piece.kind = kind;
        if (kind == 2 && piece.miss() > e) {
            piece.kind = 1;
        }
        return piece;
    }

    private static List<Piece> piecesOf(List<Long> keys, int kind, int e) {
        List<Piece> pieces = new ArrayList<>();
        List<Integer> starts = spans(keys, kind == 2 ? e - 1 : e);
        for (int i = 0; i + 1 < starts.size(); i++) {
            pieces.add(pieceOf(keys.subList(starts.get(i), starts.get(i + 1)), kind, e));
        }
        return pieces;
    }

    private int change(int from, int to, Iterable<Long> keys, int kind) {
        List<Long> rising = new ArrayList<>();
        keys.forEach(rising::add);
        List<Piece> come = piecesOf(rising, kind, e);
        List<Piece> then = new ArrayList<>(index.subList(0, from));
        then.addAll(come);
        then.addAll(index.subList(to, index.size()));
        index = then;
        made += come.size();
        layers = new ArrayList<>();
        List<Piece> below = index;
        while (below.size() > 1) {
            List<Long> firsts = new ArrayList<>();
            for (Piece piece : below) {
                firsts.add(piece.first());
            }
            below = piecesOf(firsts, 1, e);
            layers.add(below);
        }
        return come.size();
    }

    private TreeSet<Long> there() {
        TreeSet<Long> keys = new TreeSet<>();
        for (Piece piece : index) {
            keys.addAll(piece.there());
        }
        return keys;
    }

    int load(long k) {
        return fill(k, 1, 1);
    }

    int fill(long first, long step, int n) {
        if (n < 1 || step < 1 || !isKey(first) || !row.isEmpty() && first <= row.get(row.size() - 1)) {
            return BAD;
        }
        BigInteger all = BigInteger.valueOf(step).multiply(BigInteger.valueOf(n - 1));
        BigInteger last = all.add(BigInteger.valueOf(first));
        if (last.compareTo(BigInteger.valueOf(TOP)) > 0) {
            return BAD;
        }
        if (row.size() + (long) n > 300) {
            return FULL;
        }
        for (int i = 0; i < n; i++) {
            row.add(first + i * step);
        }
        return row.size();
    }

    int wipe() {
        int had = row.size();
        row.clear();
        return had;
    }

    int margin(int to) {
        if (!isMargin(to)) {
            return BAD;
        }
        int was = e;
        e = to;
        return was;
    }

    int few(int m) {
        return isMargin(m) ? spans(row, m).size() - 1 : BAD;
    }

    int passes(int i, int j, int l, int m) {
        if (!isMargin(m) || !(0 <= i && i < j && j < l && l < row.size())) {
            return BAD;
        }
        return passed(row, new int[] {i, j, l}, m) ? 1 : 0;
    }

    int span(int n, int what) {
        List<Integer> starts = spans(row, e);
        if (n < 0 || n + 1L >= starts.size() || what < 0 || what > (n == 0 ? 1 : 3)) {
            return NONE;
        }
        int start = starts.get(n);
        if (what < 2) {
            return what == 0 ? start : starts.get(n + 1) - start;
        }
        for (int i = starts.get(n - 1); i < start; i++) {
            for (int j = i + 1; j < start; j++) {
                if (!passed(row, new int[] {i, j, start}, e)) {
                    return what == 2 ? i : j;
                }
            }
        }
        throw new IllegalStateException("three keys should prove each span");
    }

    private boolean isBadKind(int kind) {
        return kind < 1 || kind > 2 || kind == 2 && e == 0;
    }

    int build(int kind) {
        return isBadKind(kind) || row.isEmpty() ? BAD : change(0, index.size(), row, kind);
    }

    int again(int kind) {
        if (index.isEmpty()) {
            return NONE;
        }
        return isBadKind(kind) ? BAD : change(0, index.size(), there(), kind);
    }

    int clear() {
        int were = there().size();
        index = new ArrayList<>();
        layers = new ArrayList<>();
        return were;
    }

    int round(int p) {
        if (p < 0 || p >= index.size()) {
            return NONE;
        }
        Piece piece = index.get(p);
        if (piece.kind != 1) {
            return BAD;
        }
        piece.kind = 2;
        if (piece.miss() > piece.margin) {
            piece.kind = 1;
            return 0;
        }
        return 1;
    }

    int merge(int p) {
        if (p < 0 || p + 1L >= index.size()) {
            return NONE;
        }
        TreeSet<Long> keys = index.get(p).there();
        keys.addAll(index.get(p + 1).there());
        return change(p, p + 2, keys, 1);
    }

    /** The witness of a find; behind it how many keys were looked at. */
    private List<Integer> sought(long k) {
        List<Integer> saw = new ArrayList<>();
        int looks = 0;
        List<List<Piece>> tiers = new ArrayList<>();
        tiers.add(index);
        tiers.addAll(layers);
        Piece piece = tiers.get(tiers.size() - 1).get(0);
        for (int t = tiers.size() - 1; t >= 0; t--) {
            int g = piece.guessFor(k);
            int p = Math.min(g + piece.margin, piece.keys.size() - 1);
            while (p > 0) {
                looks++;
                if (piece.keys.get(p) <= k) {
                    break;
                }
                p--;
            }
            saw.add(tiers.get(t).indexOf(piece));
            saw.add(g);
            saw.add(p);
            long key = piece.keys.get(p);
            if (t > 0) {
                piece = tiers.get(t - 1).stream().filter(q -> q.first() == key).findFirst().orElseThrow();
            } else {
                looks++;
                if (key == k && !piece.dropped.contains(k)) {
                    saw.add(1);
                } else {
                    looks += piece.late.tailSet(k, false).size() + (piece.late.floor(k) == null ? 0 : 1);
                    saw.add(piece.late.contains(k) ? 1 : 0);
                }
            }
        }
        saw.add(looks);
        return saw;
    }

    private Piece pieceFor(long k) {
        Piece found = index.get(0);
        for (Piece piece : index) {
            found = piece.first() <= k ? piece : found;
        }
        return found;
    }

    int find(long k) {
        if (index.isEmpty() || !isKey(k)) {
            return index.isEmpty() ? NONE : BAD;
        }
        witness = sought(k);
        looked = witness.remove(witness.size() - 1);
        int answer = witness.get(witness.size() - 1);
        if ((answer == 1) != there().contains(k)) {
            throw new IllegalStateException("a find should find just what is there");
        }
        return answer;
    }

    int insert(long k) {
        if (index.isEmpty() || !isKey(k)) {
            return index.isEmpty() ? NONE : BAD;
        }
        if (there().contains(k)) {
            return 0;
        }
        if (there().size() == 300) {
            return FULL;
        }
        Piece piece = pieceFor(k);
        if (!piece.dropped.remove(k)) {
            piece.late.add(k);
        }
        if (piece.late.size() == 16) {
            int p = index.indexOf(piece);
            change(p, p + 1, piece.there(), 1);
            insertsMade++;
        }
        return 1;
    }

    int drop(long k) {
        if (index.isEmpty() || !isKey(k)) {
            return index.isEmpty() ? NONE : BAD;
        }
        if (!there().contains(k)) {
            return 0;
        }
        Piece piece = pieceFor(k);
        if (!piece.late.remove(k)) {
            piece.dropped.add(k);
        }
        return 1;
    }

    long at(int i) {
        List<Long> keys = new ArrayList<>(there());
        return i >= 0 && i < keys.size() ? keys.get(i) : NO_KEY;
    }

    int below(long k) {
        if (index.isEmpty() || !isKey(k)) {
            return index.isEmpty() ? NONE : BAD;
        }
        return there().headSet(k).size();
    }

    long above(long k) {
        Long next = there().higher(k);
        return next == null ? NO_KEY : next;
    }

    int between(long a, long b) {
        if (index.isEmpty() || !isKey(a) || !isKey(b)) {
            return index.isEmpty() ? NONE : BAD;
        }
        return b > a ? there().subSet(a, b).size() : 0;
    }

    int layers() {
        return index.isEmpty() ? NONE : layers.size();
    }

    private List<Piece> tier(int layer) {
        if (layer == -1) {
            return index;
        }
        return layer >= 0 && layer < layers.size() ? layers.get(layer) : new ArrayList<>();
    }

    private Piece told(int layer, int p) {
        List<Piece> tier = tier(layer);
        return p >= 0 && p < tier.size() ? tier.get(p) : null;
    }

    int pieces(int layer) {
        List<Piece> tier = tier(layer);
        return tier.isEmpty() ? NONE : tier.size();
    }

    int piece(int layer, int p, int what) {
        Piece piece = told(layer, p);
        if (piece == null || what < 0 || what > 5) {
            return NONE;
        }
        return new int[] {piece.kind, piece.keys.size(), piece.dropped.size(), piece.late.size(),
            piece.margin, piece.miss()}[what];
    }

    long line(int layer, int p, int what) {
        Piece piece = told(layer, p);
        if (piece == null || what < 0 || what > 4) {
            return NO_KEY;
        }
        return new long[] {piece.rise, piece.run, piece.height, piece.first(),
            piece.keys.get(piece.keys.size() - 1)}[what];
    }

    int guess(int layer, int p, long k) {
        Piece piece = told(layer, p);
        if (piece == null) {
            return NONE;
        }
        return isKey(k) ? piece.guessFor(k) : BAD;
    }

    long bits(int p, int what) {
        Piece piece = told(-1, p);
        if (piece == null || piece.kind != 2 || what < 0 || what > 1) {
            return 0;
        }
        return Double.doubleToLongBits(what == 0 ? piece.a() : piece.b());
    }

    long key(int p, int i, boolean late) {
        Piece piece = told(-1, p);
        if (piece == null) {
            return NO_KEY;
        }
        List<Long> keys = late ? new ArrayList<>(piece.late) : piece.keys;
        return i >= 0 && i < keys.size() ? keys.get(i) : NO_KEY;
    }

    int looks() {
        return looked;
    }

    int told(int i) {
        return i >= 0 && i < witness.size() ? witness.get(i) : BAD;
    }

    int check(long k) {
        if (index.isEmpty()) {
            return NONE;
        }
        if (!isKey(k) || witness.isEmpty()) {
            return BAD;
        }
        List<Integer> would = sought(k);
        would.remove(would.size() - 1);
        return 2 * would.get(would.size() - 1) + (would.equals(witness) ? 1 : 0);
    }

    int count(int what) {
        if (what < 0 || what > 4) {
            return NONE;
        }
        return new int[] {row.size(), e, there().size(), made, insertsMade}[what];
    }
}
