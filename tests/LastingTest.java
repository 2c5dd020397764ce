/** No call throws, whatever its arguments, in any state, also long behind the 512th call. */
public final class LastingTest {
    private static final long TOP = 1000000000000L;
    private static final int[] ODD = {Integer.MIN_VALUE, -3, -2, -1, 0, 1, 2, 3, 4, 5, 15, 16, 39, 40, 41,
        299, 300, 301, 1023, 1024, 1025, Integer.MAX_VALUE - 1, Integer.MAX_VALUE};
    private static final long[] ODD_KEYS = {Long.MIN_VALUE, -TOP - 1, -TOP, -1, 0, 1, TOP - 1, TOP, TOP + 1,
        Long.MAX_VALUE};
    private static final Due due = new Due();
    private static long seed = 1;

    public static void main(String[] args) {
        for (int run = 0; run < 20; run++) {
            aLongRun(run);
        }
        moreKeysThanThereIsRoomFor();
        due.end("LastingTest");
    }

    private static int next(int below) {
        seed = seed * 6364136223846793005L + 1442695040888963407L;
        return (int) ((seed >>> 33) % below);
    }

    private static int number() {
        return next(3) == 0 ? ODD[next(ODD.length)] : next(20) - 1;
    }

    private static long aKey() {
        return next(12) == 0 ? ODD_KEYS[next(ODD_KEYS.length)] : next(3000) - 1000;
    }

    private static void aLongRun(int run) {
        LeaningIndex x = new LeaningIndex();
        int thrown = 0;
        for (int call = 0; call < 6000; call++) {
            try {
                aCall(x, next(60));
            } catch (RuntimeException e) {
                thrown++;
                System.out.println("run " + run + " call " + call + ": " + e);
            }
        }
        due.is("throws of run " + run, thrown, 0);
    }

    private static void aCall(LeaningIndex x, int which) {
        switch (which) {
            case 0: x.load(aKey()); break;
            case 1: x.fill(aKey(), aKey(), number()); break;
            case 2: x.fill(next(5000), 1 + next(9), next(300)); break;
            case 3: x.wipe(); break;
            case 4: x.margin(number()); break;
            case 5: x.few(number()); break;
            case 6: x.passes(number(), number(), number(), number()); break;
            case 7: x.span(number(), number()); break;
            case 8: x.build(number()); break;
            case 9: x.build(1); break;
            case 10: x.again(number()); break;
            case 11: if (next(20) == 0) { x.clear(); } break;
            case 12: x.round(number()); break;
            case 13: x.merge(number()); break;
            case 14: x.at(number()); break;
            case 15: x.below(aKey()); break;
            case 16: x.above(aKey()); break;
            case 17: x.between(aKey(), aKey()); break;
            case 18: x.layers(); break;
            case 19: x.pieces(number()); break;
            case 20: x.piece(number(), number(), number()); break;
            case 21: x.line(number(), number(), number()); break;
            case 22: x.guess(number(), number(), aKey()); break;
            case 23: x.bits(number(), number()); break;
            case 24: x.key(number(), number(), next(2) == 0); break;
            case 25: x.looks(); break;
            case 26: x.told(number()); break;
            case 27: x.check(aKey()); break;
            case 28: x.count(number()); break;
            case 29: x.find(aKey()); break;
            default: if (which < 45) { x.insert(aKey()); } else { x.drop(aKey()); } break;
        }
    }

    /** Each round of 34 inserts and as many drops leaves dropped keys behind in pieces that stay. */
    private static void moreKeysThanThereIsRoomFor() {
        LeaningIndex x = new LeaningIndex();
        x.margin(0);
        x.load(0);
        x.build(1);
        int refused = 0;
        long k = 10;
        for (int call = 0; call < 6000; call++) {
            k += 1 + call % 7;
            int answer = x.insert(k);
            refused += answer == LeaningIndex.FULL ? 1 : 0;
            due.is("insert " + k, answer == LeaningIndex.FULL ? 1 : answer, 1);
            if (call % 40 == 39) {
                for (int i = x.count(2) - 1; i >= 0; i--) {
                    x.drop(x.at(i));
                }
            }
        }
        due.is("some were refused", refused > 0 ? 1 : 0, 1);
        due.is("again makes room", x.insert(-1) == 1 || x.again(1) >= 0 ? 1 : 0, 1);
    }
}
