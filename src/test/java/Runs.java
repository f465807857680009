import java.lang.reflect.Method;
import java.util.LinkedHashMap;
import java.util.Map;

/** What several tests need: numbers by a fixed rule, texts written letter by letter, calls by name. */
final class Runs {
    private static final Map<String, Method> OF_CLASS = methods(LacedPack.class);
    private static final Map<String, Method> OF_MODEL = methods(PlainPack.class);

    private long state;

    Runs(long seed) {
        state = seed * 0x9E3779B97F4A7C15L + 1;
    }

    /** A number from 0 to below the limit; the same ones in each run of the test. */
    int below(int limit) {
        state = state * 6364136223846793005L + 1442695040888963407L;
        return (int) ((state >>> 33) % limit);
    }

    static void write(LacedPack pack, String text) {
        for (char letter : text.toCharArray()) {
            pack.write(letter);
        }
    }

    static LacedPack written(String text) {
        LacedPack pack = new LacedPack();
        write(pack, text);
        return pack;
    }

    static LacedPack laid(String text) {
        LacedPack pack = written(text);
        pack.lay();
        return pack;
    }

    static String order(LacedPack pack) {
        StringBuilder row = new StringBuilder();
        int cards = pack.count(0);
        for (int place = 0; place < cards; place++) {
            row.append(place == 0 ? "" : " ").append(pack.at(place));
        }
        return row.toString();
    }

    /**
     * All that can be asked of it, and all that it undoes, deals, goes back to and lays; it is used up then.
     * Not more than 170 calls, for an object has but 512.
     */
    static String trace(LacedPack pack) {
        StringBuilder all = new StringBuilder();
        for (int what = 0; what <= 5; what++) {
            all.append(pack.count(what)).append(' ');
        }
        all.append("fault ").append(pack.fault()).append(": ").append(order(pack)).append(", colours");
        int cards = pack.count(0);
        for (int card = 0; card < cards; card++) {
            all.append(' ').append(pack.colour(card));
        }
        all.append(", done ").append(pack.done(0)).append(' ').append(pack.done(1));
        all.append(", deals ").append(pack.again(5));
        for (int i = 0; i < 9 && pack.count(3) > 0; i++) {
            all.append(", undone ").append(pack.undo()).append(": ").append(pack.at(0));
            all.append(' ').append(pack.at(cards - 1)).append(' ').append(pack.where(0));
        }
        pack.deal();
        all.append(", dealt ").append(order(pack));
        for (int i = 0; i < 3 && pack.count(4) > 0; i++) {
            all.append(", back ").append(pack.back()).append(": ").append(order(pack));
        }
        all.append(", laid ").append(pack.lay()).append(": ").append(order(pack));
        return all.append(", wiped ").append(pack.wipe()).toString();
    }

    static Map<String, Method> calls() {
        return OF_CLASS;
    }

    static int call(LacedPack pack, String name, int[] numbers) {
        return call(OF_CLASS.get(name), pack, numbers);
    }

    static int call(PlainPack pack, String name, int[] numbers) {
        return call(OF_MODEL.get(name), pack, numbers);
    }

    private static int call(Method method, Object pack, int[] numbers) {
        Object[] boxed = new Object[numbers.length];
        for (int i = 0; i < numbers.length; i++) {
            boxed[i] = numbers[i];
        }
        try {
            return (Integer) method.invoke(pack, boxed);
        } catch (ReflectiveOperationException fault) {
            throw new IllegalStateException(method.getName() + " threw", fault);
        }
    }

    private static Map<String, Method> methods(Class<?> of) {
        Map<String, Method> all = new LinkedHashMap<>();
        for (String name : FaceTest.FACE.keySet()) {
            for (Method method : of.getDeclaredMethods()) {
                if (method.getName().equals(name) && method.getParameterCount() == FaceTest.FACE.get(name)
                        && !java.lang.reflect.Modifier.isPrivate(method.getModifiers())
                        && !java.lang.reflect.Modifier.isStatic(method.getModifiers())) {
                    all.put(name, method);
                }
            }
        }
        return all;
    }
}
