/** An index of numbers by straight lines. The document's promises say what each call does. */
public final class LeaningIndex {
    public static final int NONE = -1, BAD = -2, FULL = -3;
    public static final long NO_KEY = Long.MIN_VALUE;

    private static final long TOP_KEY = 1000000000000L;
    private static final int MOST_KEYS = 300;
    private static final int MOST_LATE = 15;
    private static final int TOP_MARGIN = 40;
    private static final int FIRST_MARGIN = 8;
    private static final int FLAT = 0, LEANING = 1, ROUNDED = 2;
    private static final int THE_INDEX = -1;

    // Dropped keys stay in their pieces, so the index holds more than the 300 that are there.
    // An insert() brings one more only after a drop() has made room, and an object is used for
    // 512 calls: fewer than 256 come so. No larger, for all objects of a run share one room.
    private static final int ROOM = 2 * MOST_KEYS;

    // Two keys always have a line, so each piece of a layer but the last has two keys or more:
    // a layer has at most half (rounded up) of the pieces below it, and 600 end after ten.
    private static final int MOST_LAYERS = 10;

    private final long[] row = new long[MOST_KEYS];
    private int rowSize = 0;
    private int marginNow = FIRST_MARGIN;

    // The index is without a piece just when there is none.
    private Tier index = new Tier(ROOM, MOST_KEYS);
    // Where the index is put together anew; then the two change places, and nothing is allotted.
    private Tier spare = new Tier(ROOM, MOST_KEYS);
    private final Tier[] upper = new Tier[MOST_LAYERS];
    private int layerCount = 0;
    private int there = 0;
    private int madeSoFar = 0;
    private int insertsThatMade = 0;

    private final Trace latest = new Trace();
    private final Trace trial = new Trace();
    private final Slopes slopes = new Slopes();
    private final long[] scratch = new long[ROOM];

    public LeaningIndex() {
        int room = ROOM;
        for (int layer = 0; layer < MOST_LAYERS; layer++) {
            upper[layer] = new Tier(room, 0);
            room = (room + 1) / 2;
        }
    }

    // ---- the row

    public int load(long k) {
        if (!isKey(k) || !isAboveRow(k)) {
            return BAD;
        }
        if (rowSize >= MOST_KEYS) {
            return FULL;
        }
        row[rowSize] = k;
        rowSize++;
        return rowSize;
    }

    public int fill(long first, long step, int n) {
        if (n < 1 || step < 1 || !isKey(first) || !isAboveRow(first)) {
            return BAD;
        }
        // Divided, for step times n may be more than a long holds.
        if (n - 1 > (TOP_KEY - first) / step) {
            return BAD;
        }
        if (n > MOST_KEYS - rowSize) {
            return FULL;
        }
        for (int i = 0; i < n; i++) {
            row[rowSize + i] = first + i * step;
        }
        rowSize += n;
        return rowSize;
    }

    public int wipe() {
        int had = rowSize;
        rowSize = 0;
        return had;
    }

    public int margin(int e) {
        if (!isMargin(e)) {
            return BAD;
        }
        int was = marginNow;
        marginNow = e;
        return was;
    }

    public int few(int m) {
        if (!isMargin(m)) {
            return BAD;
        }
        int spans = 0;
        int start = 0;
        while (start < rowSize && spans < rowSize) {
            start = slopes.endOfSpan(row, start, rowSize, m);
            spans++;
        }
        return spans;
    }

    public int passes(int i, int j, int l, int m) {
        if (!isMargin(m) || i < 0 || j <= i || l <= j || l >= rowSize) {
            return BAD;
        }
        return slopes.passThree(row, i, j, l, m) ? 1 : 0;
    }

    public int span(int n, int what) {
        int mostWhat = n > 0 ? 3 : 1;
        if (n < 0 || what < 0 || what > mostWhat) {
            return NONE;
        }
        int before = 0;
        int start = 0;
        for (int i = 0; i < n && start < rowSize; i++) {
            before = start;
            start = slopes.endOfSpan(row, start, rowSize, marginNow);
        }
        if (start >= rowSize) {
            return NONE;
        }
        if (what == 0) {
            return start;
        }
        if (what == 1) {
            return slopes.endOfSpan(row, start, rowSize, marginNow) - start;
        }
        return oneOfTwoThatBar(before, start, what == 2);
    }

    /** Of the first two keys from before on that no line passes with the one at start, one. */
    private int oneOfTwoThatBar(int before, int start, boolean theFirst) {
        for (int i = before; i < start; i++) {
            for (int j = i + 1; j < start; j++) {
                if (!slopes.passThree(row, i, j, start, marginNow)) {
                    return theFirst ? i : j;
                }
            }
        }
        return NONE;
    }

    // ---- the index

    public int build(int kind) {
        if (!isKindToMake(kind) || rowSize == 0) {
            return BAD;
        }
        System.arraycopy(row, 0, scratch, 0, rowSize);
        there = rowSize;
        return replace(0, index.count, rowSize, kind);
    }

    public int again(int kind) {
        if (!hasIndex()) {
            return NONE;
        }
        if (!isKindToMake(kind)) {
            return BAD;
        }
        return replace(0, index.count, gatherAll(), kind);
    }

    public int clear() {
        int were = there;
        index.empty();
        layerCount = 0;
        there = 0;
        return were;
    }

    public int round(int piece) {
        Piece found = index.pieceAt(piece);
        if (found == null) {
            return NONE;
        }
        if (found.kind != LEANING) {
            return BAD;
        }
        return index.turnRounded(found) ? 1 : 0;
    }

    public int merge(int p) {
        if (p < 0 || p >= index.count - 1) {
            return NONE;
        }
        return replace(p, p + 2, index.gather(p, p + 2, scratch), LEANING);
    }

    /** Pieces from .. to - 1 go; those made of the first keys of scratch come: how many. */
    private int replace(int from, int to, int keys, int kind) {
        spare.empty();
        spare.takeOver(index, 0, from);
        int m = kind == ROUNDED ? marginNow - 1 : marginNow;
        int came = spare.makePieces(scratch, keys, m, marginNow, slopes);
        if (kind == ROUNDED) {
            spare.roundPieces(from, from + came);
        }
        spare.takeOver(index, to, index.count);
        Tier old = index;
        index = spare;
        spare = old;
        madeSoFar += came;
        makeLayers();
        return came;
    }

    private void makeLayers() {
        layerCount = 0;
        Tier below = index;
        while (below.count > 1 && layerCount < MOST_LAYERS) {
            int keys = below.firstKeys(scratch);
            Tier layer = upper[layerCount];
            layer.empty();
            layer.makePieces(scratch, keys, marginNow, marginNow, slopes);
            layerCount++;
            below = layer;
        }
    }

    // ---- keys

    public int find(long k) {
        if (!hasIndex()) {
            return NONE;
        }
        if (!isKey(k)) {
            return BAD;
        }
        latest.follow(k, index, upper, layerCount);
        return latest.answer;
    }

    public int insert(long k) {
        if (!hasIndex()) {
            return NONE;
        }
        if (!isKey(k)) {
            return BAD;
        }
        trial.follow(k, index, upper, layerCount);
        if (trial.answer == 1) {
            return 0;
        }
        if (there >= MOST_KEYS || index.isFull()) {
            return FULL;
        }
        there++;
        if (index.restore(trial.place, k)) {
            return 1;
        }
        int p = trial.piece;
        if (index.putLate(p, trial.latePlace, k) > MOST_LATE) {
            insertsThatMade++;
            replace(p, p + 1, index.gather(p, p + 1, scratch), LEANING);
        }
        return 1;
    }

    public int drop(long k) {
        if (!hasIndex()) {
            return NONE;
        }
        if (!isKey(k)) {
            return BAD;
        }
        trial.follow(k, index, upper, layerCount);
        if (trial.answer == 0) {
            return 0;
        }
        if (index.holds(trial.place, k)) {
            index.markDropped(trial.place);
        } else {
            index.takeLate(trial.piece, trial.latePlace - 1);
        }
        there--;
        return 1;
    }

    public long at(int i) {
        int keys = gatherAll();
        return i >= 0 && i < keys ? scratch[i] : NO_KEY;
    }

    public int below(long k) {
        if (!hasIndex()) {
            return NONE;
        }
        if (!isKey(k)) {
            return BAD;
        }
        return countBelow(k);
    }

    public long above(long k) {
        int keys = gatherAll();
        for (int i = 0; i < keys; i++) {
            if (scratch[i] > k) {
                return scratch[i];
            }
        }
        return NO_KEY;
    }

    public int between(long a, long b) {
        if (!hasIndex()) {
            return NONE;
        }
        if (!isKey(a) || !isKey(b)) {
            return BAD;
        }
        return b > a ? countBelow(b) - countBelow(a) : 0;
    }

    private int countBelow(long k) {
        int keys = gatherAll();
        int count = 0;
        while (count < keys && scratch[count] < k) {
            count++;
        }
        return count;
    }

    private int gatherAll() {
        return index.gather(0, index.count, scratch);
    }

    // ---- what is told

    public int layers() {
        return hasIndex() ? layerCount : NONE;
    }

    public int pieces(int layer) {
        Tier tier = tierOf(layer);
        return tier == null ? NONE : tier.count;
    }

    public int piece(int layer, int p, int what) {
        Tier tier = tierOf(layer);
        Piece found = tier == null ? null : tier.pieceAt(p);
        if (tier == null || found == null) {
            return NONE;
        }
        switch (what) {
            case 0: return found.kind;
            case 1: return found.size;
            case 2: return tier.countDropped(found);
            case 3: return found.lateSize;
            case 4: return found.margin;
            case 5: return tier.greatestMiss(found);
            default: return NONE;
        }
    }

    public long line(int layer, int p, int what) {
        Tier tier = tierOf(layer);
        Piece found = tier == null ? null : tier.pieceAt(p);
        if (tier == null || found == null) {
            return NO_KEY;
        }
        switch (what) {
            case 0: return found.rise;
            case 1: return found.run;
            case 2: return found.height;
            case 3: return tier.keyOf(found, 0);
            case 4: return tier.keyOf(found, found.size - 1);
            default: return NO_KEY;
        }
    }

    public int guess(int layer, int p, long k) {
        Tier tier = tierOf(layer);
        Piece found = tier == null ? null : tier.pieceAt(p);
        if (tier == null || found == null) {
            return NONE;
        }
        return isKey(k) ? found.guessAway(k - tier.keyOf(found, 0)) : BAD;
    }

    public long bits(int p, int what) {
        Piece found = index.pieceAt(p);
        if (found == null || found.kind != ROUNDED || what < 0 || what > 1) {
            return 0;
        }
        return bitsOf(what == 0 ? found.slope : found.base);
    }

    public long key(int p, int i, boolean late) {
        Piece found = index.pieceAt(p);
        if (found == null) {
            return NO_KEY;
        }
        return late ? index.lateOf(found, i) : index.keyOf(found, i);
    }

    private Tier tierOf(int layer) {
        if (!hasIndex() || layer < THE_INDEX || layer >= layerCount) {
            return null;
        }
        return layer == THE_INDEX ? index : upper[layer];
    }

    /** The bits by arithmetic alone: halving and doubling a double lose nothing. */
    private static long bitsOf(double number) {
        if (number == 0.0) {
            return 0;
        }
        double left = number < 0 ? -number : number;
        int power = 0;
        while (left >= 2.0 && power < 1023) {
            left = left / 2.0;
            power++;
        }
        while (left < 1.0 && power > -1022) {
            left = left * 2.0;
            power--;
        }
        long fraction = (long) ((left - 1.0) * (double) (1L << 52));
        long positive = ((power + 1023L) << 52) | fraction;
        return number < 0 ? positive | Long.MIN_VALUE : positive;
    }

    // ---- finds

    public int looks() {
        return latest.looks;
    }

    public int told(int i) {
        return i >= 0 && i < latest.size ? latest.numbers[i] : BAD;
    }

    public int check(long k) {
        if (!hasIndex()) {
            return NONE;
        }
        if (!isKey(k) || latest.size == 0) {
            return BAD;
        }
        trial.follow(k, index, upper, layerCount);
        return 2 * trial.answer + (trial.tellsTheSame(latest) ? 1 : 0);
    }

    public int count(int what) {
        switch (what) {
            case 0: return rowSize;
            case 1: return marginNow;
            case 2: return there;
            case 3: return madeSoFar;
            case 4: return insertsThatMade;
            default: return NONE;
        }
    }

    private boolean hasIndex() {
        return index.count > 0;
    }

    private boolean isAboveRow(long k) {
        return rowSize == 0 || k > row[rowSize - 1];
    }

    private boolean isKindToMake(int kind) {
        return kind == LEANING || kind == ROUNDED && marginNow > 0;
    }

    private static boolean isKey(long k) {
        return k >= -TOP_KEY && k <= TOP_KEY;
    }

    private static boolean isMargin(int m) {
        return m >= 0 && m <= TOP_MARGIN;
    }

    /** How steep a line may be that passes some points: from the greatest LOWER to the least UPPER. */
    private static final class Slopes {
        // Each is a rise above a run. -1 / 0 and 1 / 0 are no bound yet: multiplied crosswise
        // they compare as they should, and each product here is below 10^16.
        private long lowRise = -1;
        private long lowRun = 0;
        private long highRise = 1;
        private long highRun = 0;
        private int pivot = 0;

        /** Where the span ends that begins at start; its least UPPER is kept for tellLine(). */
        int endOfSpan(long[] keys, int start, int size, int m) {
            forget();
            int end = start + 1;
            while (end < size && admit(keys, start, end, m)) {
                end++;
            }
            return end;
        }

        boolean passThree(long[] keys, int i, int j, int l, int m) {
            forget();
            narrow(keys, i, j, m);
            narrow(keys, i, l, m);
            narrow(keys, j, l, m);
            return leaveSome();
        }

        /** Gives the piece the line of the span that begins at start and was found last. */
        void tellLine(Piece piece, long[] keys, int start, int m) {
            long divisor = commonDivisor(highRise, highRun);
            if (divisor < 1 || start < 0 || pivot < start || pivot >= keys.length) {
                return;
            }
            piece.rise = highRise / divisor;
            piece.run = highRun / divisor;
            long place = pivot - start;
            piece.height = piece.run * (place - m) - piece.rise * (keys[pivot] - keys[start]);
        }

        private void forget() {
            lowRise = -1;
            lowRun = 0;
            highRise = 1;
            highRun = 0;
            pivot = 0;
        }

        /** Whether a line passes key j too; if none does, the least UPPER stays that without it. */
        private boolean admit(long[] keys, int start, int j, int m) {
            long wasHighRise = highRise;
            long wasHighRun = highRun;
            int wasPivot = pivot;
            for (int i = start; i < j; i++) {
                narrow(keys, i, j, m);
            }
            if (leaveSome()) {
                return true;
            }
            highRise = wasHighRise;
            highRun = wasHighRun;
            pivot = wasPivot;
            return false;
        }

        private void narrow(long[] keys, int i, int j, int m) {
            if (i < 0 || j <= i || j >= keys.length) {
                return;
            }
            long run = keys[j] - keys[i];
            long upperRise = j - i + 2 * m;
            long lowerRise = j - i - 2 * m;
            if (upperRise * highRun < highRise * run) {
                highRise = upperRise;
                highRun = run;
                pivot = i;
            }
            if (lowerRise * lowRun > lowRise * run) {
                lowRise = lowerRise;
                lowRun = run;
            }
        }

        private boolean leaveSome() {
            return lowRise * highRun <= highRise * lowRun;
        }

        private static long commonDivisor(long one, long other) {
            long a = one;
            long b = other;
            // Euclid's steps for two longs are fewer than 100.
            for (int i = 0; i < 100 && b != 0; i++) {
                long rest = a % b;
                a = b;
                b = rest;
            }
            return a;
        }
    }

    /** A piece; its keys and late keys are places of its tier's rows, from start and lateStart on. */
    private static final class Piece {
        private int kind;
        private int margin;
        private int start;
        private int size;
        private int lateStart;
        private int lateSize;
        private long rise;
        private long run;
        private long height;
        private double slope;
        private double base;

        void beFlat(int marginThen) {
            kind = FLAT;
            margin = marginThen;
            rise = 0;
            run = 1;
            height = 0;
        }

        void beLike(Piece other) {
            kind = other.kind;
            margin = other.margin;
            rise = other.rise;
            run = other.run;
            height = other.height;
            slope = other.slope;
            base = other.base;
        }

        /** The guess for the key that is so far away from the first one. */
        int guessAway(long away) {
            if (kind == FLAT || run < 1) {
                return 0;
            }
            long place = kind == ROUNDED
                    ? roundedDown(base + slope * (double) away)
                    : Math.floorDiv(height + rise * away, run);
            return (int) Math.max(0L, Math.min(place, size - 1L));
        }

        private static long roundedDown(double number) {
            long towardsZero = (long) number;
            return (double) towardsZero > number ? towardsZero - 1 : towardsZero;
        }
    }

    /**
     * Pieces in the order of their keys: those of the index, or of a layer. The keys of all of
     * them stand in one row, and so do all late keys: each of the two rows rises as a whole.
     */
    private static final class Tier {
        private final long[] keys;
        private final boolean[] dropped;
        private final long[] late;
        // A piece is made when its number is first needed, and used again from then on.
        private final Piece[] pieces;
        private int size = 0;
        private int lateSize = 0;
        private int count = 0;

        Tier(int room, int lateRoom) {
            keys = new long[room > 0 ? room : 0];
            dropped = new boolean[room > 0 ? room : 0];
            late = new long[lateRoom > 0 ? lateRoom : 0];
            pieces = new Piece[room > 0 ? room : 0];
        }

        void empty() {
            size = 0;
            lateSize = 0;
            count = 0;
        }

        boolean isFull() {
            return size + lateSize >= keys.length || lateSize >= late.length;
        }

        Piece pieceAt(int p) {
            return p >= 0 && p < count ? pieces[p] : null;
        }

        long keyOf(Piece piece, int i) {
            int place = piece.start + i;
            return i >= 0 && i < piece.size && place >= 0 && place < size ? keys[place] : NO_KEY;
        }

        long lateOf(Piece piece, int i) {
            int place = piece.lateStart + i;
            return i >= 0 && i < piece.lateSize && place >= 0 && place < lateSize ? late[place] : NO_KEY;
        }

        boolean isDropped(Piece piece, int i) {
            int place = piece.start + i;
            return i >= 0 && i < piece.size && place >= 0 && place < size && dropped[place];
        }

        int countDropped(Piece piece) {
            int sum = 0;
            for (int i = 0; i < piece.size; i++) {
                sum += isDropped(piece, i) ? 1 : 0;
            }
            return sum;
        }

        int greatestMiss(Piece piece) {
            long first = keyOf(piece, 0);
            int greatest = 0;
            for (int i = 0; i < piece.size; i++) {
                int miss = Math.abs(piece.guessAway(keyOf(piece, i) - first) - i);
                greatest = Math.max(greatest, miss);
            }
            return greatest;
        }

        int firstKeys(long[] into) {
            int keysPut = 0;
            for (int p = 0; p < count && p < into.length; p++) {
                Piece piece = pieces[p];
                into[p] = piece == null ? NO_KEY : keyOf(piece, 0);
                keysPut++;
            }
            return keysPut;
        }

        /** Puts the keys that are there in pieces from .. to - 1, rising, into a row: how many. */
        int gather(int from, int to, long[] into) {
            Piece first = pieceAt(from);
            Piece last = pieceAt(to - 1);
            if (first == null || last == null) {
                return 0;
            }
            int lateEnd = Math.min(last.lateStart + last.lateSize, lateSize);
            int end = Math.min(last.start + last.size, size);
            int i = first.start;
            int l = first.lateStart;
            int put = 0;
            while ((i < end || l < lateEnd) && put < into.length) {
                if (i >= end || l < lateEnd && late[l] < keys[i]) {
                    into[put] = late[l];
                    put++;
                    l++;
                } else {
                    into[put] = keys[i];
                    put += dropped[i] ? 0 : 1;
                    i++;
                }
            }
            return put;
        }

        /** Makes pieces of keys, LEANING or FLAT, behind those that are here: how many. */
        int makePieces(long[] from, int n, int m, int marginThen, Slopes slopes) {
            int made = 0;
            int start = 0;
            while (start < n && made < n) {
                int end = slopes.endOfSpan(from, start, n, m);
                Piece piece = append(from, start, end - start);
                if (piece == null) {
                    return made;
                }
                piece.beFlat(marginThen);
                if (end - start > 1) {
                    piece.kind = LEANING;
                    slopes.tellLine(piece, from, start, m);
                }
                made++;
                start = end;
            }
            return made;
        }

        void roundPieces(int from, int to) {
            for (int p = from; p < to; p++) {
                Piece piece = pieceAt(p);
                if (piece != null && piece.kind == LEANING) {
                    turnRounded(piece);
                }
            }
        }

        /** Rounds a LEANING piece, but leaves it as it is if it would miss by more than its margin. */
        boolean turnRounded(Piece piece) {
            if (piece.run < 1) {
                return false;
            }
            piece.kind = ROUNDED;
            piece.slope = (double) piece.rise / (double) piece.run;
            piece.base = (double) piece.height / (double) piece.run;
            if (greatestMiss(piece) > piece.margin) {
                piece.kind = LEANING;
                return false;
            }
            return true;
        }

        /** A new last piece with keys of a row, none dropped, and no late ones; null: no room. */
        private Piece append(long[] from, int start, int keysOfIt) {
            boolean isThere = start >= 0 && keysOfIt > 0 && start <= from.length - keysOfIt;
            if (!isThere || size > keys.length - keysOfIt || count >= pieces.length) {
                return null;
            }
            if (pieces[count] == null) {
                pieces[count] = new Piece();
            }
            Piece piece = pieces[count];
            piece.start = size;
            piece.size = keysOfIt;
            piece.lateStart = lateSize;
            piece.lateSize = 0;
            for (int i = 0; i < keysOfIt; i++) {
                keys[size + i] = from[start + i];
                dropped[size + i] = false;
            }
            size += keysOfIt;
            count++;
            return piece;
        }

        /** Pieces from .. to - 1 of another tier come behind those that are here, as they are. */
        void takeOver(Tier other, int from, int to) {
            for (int p = from; p < to; p++) {
                Piece old = other.pieceAt(p);
                Piece piece = old == null ? null : append(other.keys, old.start, old.size);
                if (old == null || piece == null) {
                    return;
                }
                piece.beLike(old);
                for (int i = 0; i < old.size; i++) {
                    dropped[piece.start + i] = other.isDropped(old, i);
                }
                for (int i = 0; i < old.lateSize && lateSize < late.length; i++) {
                    late[lateSize] = other.lateOf(old, i);
                    lateSize++;
                    piece.lateSize++;
                }
            }
        }

        /** Whether k is the key at a place of the row, and not dropped. */
        boolean holds(int place, long k) {
            return place >= 0 && place < size && keys[place] == k && !dropped[place];
        }

        /** Whether k was the key at a place of the row, and dropped; it is so no more then. */
        boolean restore(int place, long k) {
            if (place < 0 || place >= size || keys[place] != k || !dropped[place]) {
                return false;
            }
            dropped[place] = false;
            return true;
        }

        void markDropped(int place) {
            if (place >= 0 && place < size) {
                dropped[place] = true;
            }
        }

        /** Puts k at a place of the late row, for piece p: how many late keys that one has then. */
        int putLate(int p, int place, long k) {
            Piece piece = pieceAt(p);
            if (piece == null || place < 0 || place > lateSize || lateSize >= late.length) {
                return 0;
            }
            for (int l = lateSize; l > place; l--) {
                late[l] = late[l - 1];
            }
            late[place] = k;
            lateSize++;
            changeLate(p, 1);
            return piece.lateSize;
        }

        void takeLate(int p, int place) {
            if (place < 0 || place >= lateSize) {
                return;
            }
            lateSize--;
            for (int l = place; l < lateSize; l++) {
                late[l] = late[l + 1];
            }
            changeLate(p, -1);
        }

        private void changeLate(int p, int by) {
            for (int i = p; i < count; i++) {
                Piece piece = pieceAt(i);
                if (piece != null) {
                    piece.lateSize += i == p ? by : 0;
                    piece.lateStart += i == p ? 0 : by;
                }
            }
        }
    }

    /** The way of a find through the tiers, and all that it saw. */
    private static final class Trace {
        private final int[] numbers = new int[3 * (MOST_LAYERS + 1) + 1];
        private int size = 0;
        private int looks = 0;
        private int answer = 0;
        // Where it ended: a piece of the index, a place of its tier's row of keys, and the place
        // of the row of late keys behind those of the piece that are not above what it sought.
        private int piece = 0;
        private int place = 0;
        private int latePlace = 0;

        void follow(long k, Tier index, Tier[] upper, int layerCount) {
            size = 0;
            looks = 0;
            answer = 0;
            piece = 0;
            for (int layer = layerCount - 1; layer >= 0 && layer < upper.length; layer--) {
                piece = descend(upper[layer], piece, k);
            }
            place = descend(index, piece, k);
            looks++;
            if (index.holds(place, k)) {
                answer = 1;
            } else {
                seekLate(index, k);
            }
            tell(answer);
        }

        boolean tellsTheSame(Trace other) {
            if (size != other.size) {
                return false;
            }
            for (int i = 0; i < size; i++) {
                if (numbers[i] != other.numbers[i]) {
                    return false;
                }
            }
            return true;
        }

        /** The place in the tier's row of the key that piece p leads to: a piece's number below. */
        private int descend(Tier tier, int p, long k) {
            Piece atHand = tier.pieceAt(p);
            if (atHand == null) {
                return 0;
            }
            int guessed = atHand.guessAway(k - tier.keyOf(atHand, 0));
            int i = Math.min(guessed + atHand.margin, atHand.size - 1);
            boolean isAbove = true;
            while (i > 0 && isAbove) {
                looks++;
                isAbove = tier.keyOf(atHand, i) > k;
                i -= isAbove ? 1 : 0;
            }
            tell(p);
            tell(guessed);
            tell(i);
            return atHand.start + i;
        }

        private void seekLate(Tier index, long k) {
            Piece atHand = index.pieceAt(piece);
            if (atHand == null) {
                return;
            }
            int i = atHand.lateSize;
            boolean isAbove = true;
            while (i > 0 && isAbove) {
                looks++;
                long seen = index.lateOf(atHand, i - 1);
                isAbove = seen > k;
                i -= isAbove ? 1 : 0;
                answer = seen == k ? 1 : 0;
            }
            latePlace = atHand.lateStart + i;
        }

        private void tell(int number) {
            if (size < numbers.length) {
                numbers[size] = number;
                size++;
            }
        }
    }
}
