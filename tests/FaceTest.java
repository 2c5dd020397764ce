import java.lang.reflect.Constructor;
import java.lang.reflect.Field;
import java.lang.reflect.Method;
import java.lang.reflect.Modifier;
import java.util.TreeSet;

/** The public face: each constant, constructor and method as the document prints it, and no more. */
public final class FaceTest {
    private static final String[] FACE = {
        "public static final int NONE",
        "public static final int BAD",
        "public static final int FULL",
        "public static final long NO_KEY",
        "public LeaningIndex()",
        "public int load(long)",
        "public int fill(long, long, int)",
        "public int wipe()",
        "public int margin(int)",
        "public int few(int)",
        "public int passes(int, int, int, int)",
        "public int span(int, int)",
        "public int build(int)",
        "public int again(int)",
        "public int clear()",
        "public int round(int)",
        "public int merge(int)",
        "public int find(long)",
        "public int insert(long)",
        "public int drop(long)",
        "public long at(int)",
        "public int below(long)",
        "public long above(long)",
        "public int between(long, long)",
        "public int layers()",
        "public int pieces(int)",
        "public int piece(int, int, int)",
        "public long line(int, int, int)",
        "public int guess(int, int, long)",
        "public long bits(int, int)",
        "public long key(int, int, boolean)",
        "public int looks()",
        "public int told(int)",
        "public int check(long)",
        "public int count(int)",
    };

    private static final Due due = new Due();

    public static void main(String[] args) {
        Class<?> face = LeaningIndex.class;
        TreeSet<String> shown = new TreeSet<>();
        for (Field field : face.getDeclaredFields()) {
            add(shown, field.getModifiers(), field.getType().getName() + " " + field.getName());
        }
        for (Constructor<?> made : face.getDeclaredConstructors()) {
            add(shown, made.getModifiers(), "LeaningIndex" + told(made.getParameterTypes()));
        }
        for (Method method : face.getDeclaredMethods()) {
            String name = method.getReturnType().getName() + " " + method.getName();
            add(shown, method.getModifiers(), name + told(method.getParameterTypes()));
        }
        for (String one : FACE) {
            due.is(one, shown.remove(one) ? 1 : 0, 1);
        }
        for (String more : shown) {
            due.is("not in the document: " + more, 1, 0);
        }
        due.is("the class is public and final", face.getModifiers(), Modifier.PUBLIC | Modifier.FINAL);
        due.end("FaceTest");
    }

    private static void add(TreeSet<String> shown, int modifiers, String rest) {
        if (!Modifier.isPrivate(modifiers)) {
            String ahead = Modifier.toString(modifiers);
            shown.add(ahead.isEmpty() ? rest : ahead + " " + rest);
        }
    }

    private static String told(Class<?>[] parameters) {
        StringBuilder text = new StringBuilder("(");
        for (int i = 0; i < parameters.length; i++) {
            text.append(i == 0 ? "" : ", ").append(parameters[i].getName());
        }
        return text.append(")").toString();
    }
}
