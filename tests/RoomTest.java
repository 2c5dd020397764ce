import java.lang.reflect.Array;
import java.lang.reflect.Field;
import java.lang.reflect.Modifier;
import java.util.IdentityHashMap;

/** What objects take of the room that all calls of a run share, and that 512 calls have room enough. */
public final class RoomTest {
    private static final int CALLS = 512;
    private static final int MOST_OBJECTS = 600000;
    private static final int MOST_ELEMENTS = 7300000;
    private static final Due due = new Due();

    private final IdentityHashMap<Object, Boolean> seen = new IdentityHashMap<>();
    private int elements = 0;

    public static void main(String[] args) throws IllegalAccessException {
        aNewObjectByEachCall();
        builtAgainByEachCall();
        asManyDroppedKeysAsCanBe();
        due.end("RoomTest");
    }

    /** Whatever the object holds, itself too: arrays with their elements, objects with their fields. */
    private void take(Object held) throws IllegalAccessException {
        if (held == null || seen.put(held, true) != null) {
            return;
        }
        Class<?> type = held.getClass();
        if (type.isArray()) {
            int length = Array.getLength(held);
            elements += length;
            for (int i = 0; i < length && !type.getComponentType().isPrimitive(); i++) {
                take(Array.get(held, i));
            }
            return;
        }
        for (Field field : type.getDeclaredFields()) {
            if (!Modifier.isStatic(field.getModifiers())) {
                elements++;
                field.setAccessible(true);
                if (!field.getType().isPrimitive()) {
                    take(field.get(held));
                }
            }
        }
    }

    private static void fits(String what, LeaningIndex x, int times) throws IllegalAccessException {
        RoomTest room = new RoomTest();
        room.take(x);
        long objects = (long) room.seen.size() * times;
        long elements = (long) room.elements * times;
        due.is(what + ": " + objects + " objects fit", objects <= MOST_OBJECTS ? 1 : 0, 1);
        due.is(what + ": " + elements + " elements fit", elements <= MOST_ELEMENTS ? 1 : 0, 1);
    }

    private static void aNewObjectByEachCall() throws IllegalAccessException {
        fits("1 new objects", new LeaningIndex(), CALLS);
    }

    /** Squares with no margin make the most pieces: what they take once is used again from then on. */
    private static void builtAgainByEachCall() throws IllegalAccessException {
        LeaningIndex x = new LeaningIndex();
        x.margin(0);
        for (long i = 0; i < 300; i++) {
            x.load(i * i);
        }
        for (int call = 302; call < CALLS; call++) {
            due.is("9 build", x.build(1), 150);
        }
        fits("9 one object built again", x, 1);
    }

    /** Pieces of evenly spaced keys, nearly all dropped, with so few late ones each that none is made anew. */
    private static void asManyDroppedKeysAsCanBe() {
        int pieces = 18;
        LeaningIndex x = new LeaningIndex();
        x.margin(0);
        for (int p = 0; p < pieces; p++) {
            x.fill(10000 * p, 20 + p, p < 12 ? 17 : 16);
        }
        due.is("9 build", x.build(1), pieces);
        int pairs = (CALLS - pieces - 5) / 2;
        for (int i = 0; i < pairs; i++) {
            long p = i / 14;
            due.is("16 drop, number " + i, x.drop(10000 * p + (20 + p) * (i % 14)), 1);
            due.is("15 insert, number " + i, x.insert(10000 * p + 5000 + i % 14), 1);
        }
        due.is("31 full", x.count(2), 300);
        due.is("31 none was made anew", x.count(4), 0);
        due.is("15 no more", x.insert(-1), LeaningIndex.FULL);
    }
}
